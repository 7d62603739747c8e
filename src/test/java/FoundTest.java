/** Promises 24 to 32: what is found. */
public final class FoundTest {
    private static final int NONE = -1, UNKNOWN = -2, OUTSIDE = -3, NOT = -4;
    private static final Check check = new Check();
    /** Flow 0 goes 0 1 2 3 by old and 0 2 1 3 by new rules; a set with node 2 and not node 1 has a ring. */
    private static final String WAYS = "net 4;flow 0 0 3 2;old 0 0 1;old 0 1 2;old 0 2 3;new 0 0 2;new 0 2 1;new 0 1 3";
    private static final String LINKS = "link 0 1 5;link 1 2 5;link 2 3 5;link 0 2 5;link 2 1 5;link 1 3 5";

    public static void main(String[] args) {
        sound();
        soundAmongOthers();
        walk();
        safe();
        safeByWhatIsWanted();
        plan();
        planOfManyRounds();
        planTakesTheGreatest();
        planTakesTheFewest();
        planFromWhatIsTurned();
        planAmongOthers();
        rounds();
        order();
        orderFromWhatIsTurned();
        waits();
        waitsForOneOfTwo();
        letter();
        count();
        check.end();
    }

    private static Run zigzag() {
        return Run.of(check, WAYS, LINKS);
    }

    private static void sound() {
        check.promise(24, "sound");
        Run x = zigzag();
        int[] all = {15, 15, 15, 15, 12, 12, 15, 15};
        for (int set = 0; set < all.length; set++) {
            x.due("sound(0, " + set + ")", all[set]);
        }
        x.due("sound(0, 8)", OUTSIDE);
        x.due("sound(0, -1)", OUTSIDE);
        x.due("sound(0, 256)", OUTSIDE);
        x.due("sound(3, 0)", UNKNOWN);
        x.due("sound(-1, 8)", UNKNOWN);
        x.does("force(0, 7)");
        x.due("sound(0, 4): not by turned", 12);
        x.does("link(2, 3, 1)");
        x.due("sound(0, 0): no room", 7);
        x.does("link(2, 3, 2)");
        x.due("sound(0, 0): just enough", 15);
        x.does("link(2, 3, 0)");
        x.due("sound(0, 0): no link, and no ring by that", 14);
        x.does("want(0)");
        x.due("sound(0, 0): whatever is wanted", 14);
        Run ring = Run.of(check, "net 4;link 0 1 1;old 0 0 1;old 0 2 3;old 0 3 2");
        ring.due("sound(0, 0): a ring that the walk does not meet, without links", 13);
        Run post = Run.of(check, "net 3;post 0 2;link 0 1 1;link 0 2 1;old 0 0 1;new 0 0 2;new 0 2 0");
        post.due("sound(0, 0): past its post", 11);
        post.due("sound(0, 1): to its post and no further", 14);
        post.due("sound(0, 5): it meets its post, in a ring", 12);
        post.due("sound(0, 4): a rule from where it does not come", 11);
    }

    private static void soundAmongOthers() {
        Run x = Run.of(check, "net 4;flow 0 0 3 3;flow 1 0 3 2;flow 2 0 2 4;link 0 1 9;link 1 3 5;link 1 2 9",
                "old 0 0 1;old 0 1 3;old 1 0 1;old 1 1 3;old 2 0 1;new 1 0 2");
        x.due("sound(0, 0): 9 in 9, 5 in 5", 15);
        x.does("link(1, 3, 4)");
        x.due("sound(0, 0): 5 in 4", 7);
        x.due("sound(1, 0): 5 in 4", 7);
        x.due("sound(2, 0): 9 in 9, and it ends before", 14);
        x.does("link(0, 1, 8)");
        x.due("sound(2, 0): 9 in 8, one of them ends before", 6);
        x.does("force(1, 1)");
        x.due("sound(0, 0): the other one by turned", 15);
        x.due("sound(2, 0): the other one by turned", 14);
    }

    private static void walk() {
        check.promise(25, "walk");
        Run x = zigzag();
        int[][] all = {{15, 4, 3}, {13, 3, 3}, {11, 3, 3}, {13, 3, 3}, {7, 3, 2}, {7, 3, 1}, {11, 3, 3}, {15, 4, 3}};
        for (int set = 0; set < all.length; set++) {
            for (int what = 0; what < 3; what++) {
                x.due("walk(0, " + set + ", " + what + ")", all[set][what]);
            }
        }
        x.due("walk(0, 0, 3)", OUTSIDE);
        x.due("walk(0, 0, -1)", OUTSIDE);
        x.due("walk(0, 8, 0)", OUTSIDE);
        x.due("walk(0, -8, 0)", OUTSIDE);
        x.due("walk(3, 8, 3)", UNKNOWN);
        x.due("walk(-1, 0, 0)", UNKNOWN);
        x.does("link(1, 2, 0)");
        x.due("walk(0, 0, 0): no link", 3);
        x.due("walk(0, 0, 2): no link", 1);
        x.due("walk(1, 0, 1): no rules", 1);
    }

    private static void safe() {
        check.promise(26, "safe");
        Run x = zigzag();
        int[][] all = {{1, NONE, NONE}, {1, NONE, NONE}, {1, NONE, NONE}, {0, 4, 0}, {0, 4, 0}, {0, 4, 0}, {0, 4, 0}};
        for (int set = 1; set <= all.length; set++) {
            for (int what = 0; what < 3; what++) {
                x.due("safe(0, " + set + ", " + what + ")", all[set - 1][what]);
            }
        }
        x.does("turn(0, 1)");
        x.due("safe(0, 4, 1): with what is turned", 5);
        x.due("safe(0, 1, 0): it is turned", OUTSIDE);
        x.due("safe(0, 0, 0)", OUTSIDE);
        x.due("safe(0, 8, 0)", OUTSIDE);
        x.due("safe(0, 2, 3)", OUTSIDE);
        x.due("safe(0, 2, -1)", OUTSIDE);
        x.due("safe(3, 0, 3)", UNKNOWN);
        x.due("safe(-1, 2, 0)", UNKNOWN);
    }

    private static void safeByWhatIsWanted() {
        Run x = Run.of(check, WAYS, LINKS, "post 0 2");
        x.due("safe(0, 6, 1)", 2);
        x.due("safe(0, 6, 2): past its post", 2);
        x.does("want(11)");
        x.due("safe(0, 6, 1): the post is not wanted", 4);
        x.does("want(10)");
        x.due("safe(0, 6, 2): nor that it arrives", 1);
        x.does("want(8)");
        x.due("safe(0, 6, 0): nor that there is no ring", 1);
        x.does("link(1, 3, 1)");
        x.due("safe(0, 6, 1): no room", 2);
        x.due("safe(0, 6, 2): no room", 3);
        x.does("link(0, 1, 1)");
        x.due("safe(0, 6, 1): none by turned", 0);
        x.does("want(0)");
        x.due("safe(0, 7, 0): nothing is wanted", 1);
    }

    private static void plan() {
        check.promise(27, "plan");
        Run x = zigzag();
        x.due("plan(0, 0)", 3);
        x.due("plan(0, 1)", 4);
        x.due("plan(0, 2)", OUTSIDE);
        x.due("plan(0, -1)", OUTSIDE);
        x.due("plan(0, " + Integer.MAX_VALUE + ")", OUTSIDE);
        x.due("plan(1, 0): no movers", OUTSIDE);
        x.due("plan(3, 0)", UNKNOWN);
        x.due("plan(-1, -1)", UNKNOWN);
        x.does("want(0)");
        x.due("plan(0, 0): nothing is wanted", 7);
        x.does("want(15)");
        x.does("link(1, 3, 0)");
        x.due("plan(0, 0): there is none", NOT);
        x.due("plan(0, -1): there is none", NOT);
    }

    /** By old 0 1 2 3 4 5, by new 0 4 3 2 1 5: of 1 to 4 each must wait till the one behind it by new is turned. */
    private static void planOfManyRounds() {
        Run x = Run.of(check, "net 6;flow 0 0 5 1;old 0 0 1;old 0 1 2;old 0 2 3;old 0 3 4;old 0 4 5",
                "new 0 0 4;new 0 4 3;new 0 3 2;new 0 2 1;new 0 1 5");
        x.linkAll(6, 1);
        x.due("rounds(0)", 4);
        int[] all = {3, 4, 8, 16};
        for (int k = 0; k < all.length; k++) {
            x.due("plan(0, " + k + ")", all[k]);
        }
        x.due("plan(0, 4)", OUTSIDE);
        x.does("want(1)");
        x.due("rounds(0): rings that no walk meets are fine", 3);
        x.due("plan(0, 0) then", 3);
        x.due("plan(0, 1) then", 12);
        x.due("plan(0, 2) then", 16);
    }

    /** Node 2 has a new rule alone, and 0 may turn when 2 has; 3 and 4 may turn at any time. */
    private static void planTakesTheGreatest() {
        Run x = Run.of(check, "net 6;flow 0 0 1 1;old 0 0 1;new 0 0 2;new 0 2 1;new 0 3 1;old 0 4 1",
                "link 0 1 1;link 0 2 1;link 2 1 1");
        x.due("flow(0, 4)", 29);
        x.due("rounds(0)", 2);
        x.due("plan(0, 0): as great as it can be", 28);
        x.due("plan(0, 1)", 1);
    }

    /** A plan may begin with 9 too, but has four rounds then. */
    private static void planTakesTheFewest() {
        Run x = Run.of(check, "net 6;flow 0 0 5 1;post 0 4;old 0 0 3;old 0 3 2;old 0 2 1;old 0 1 4;old 0 4 5",
                "new 0 0 2;new 0 2 3;new 0 3 4;new 0 4 1;new 0 1 5");
        x.linkAll(6, 1);
        int[] all = {8, 6, 17};
        x.due("rounds(0): the fewest", all.length);
        for (int k = 0; k < all.length; k++) {
            x.due("plan(0, " + k + "): of the fewest", all[k]);
        }
        x.due("turn(0, 9)", 9);
        x.due("rounds(0) behind it", 3);
    }

    private static void planAmongOthers() {
        Run x = lanes(new int[] {1, 2, 3}, new int[] {4, 1, 2});
        x.due("rounds(0)", 3);
        x.due("plan(0, 0)", 16);
        x.due("rounds(1): 0 is in its way", NONE);
        x.due("plan(1, 0): 0 is in its way", NOT);
        x.due("advance(1): 0 is in its way", NONE);
        x.due("safe(1, 2, 0): nobody goes there yet", 1);
        x.due("turn(1, 2)", 2);
        x.due("safe(1, 1, 1): 0 is in its way", 3);
        x.due("safe(1, 1, 2): 0 is in its way", 3);
        x.due("turn(1, 1): 0 is in its way", NOT);
        x.due("advance(0)", 16);
        x.due("advance(0) again", 1);
        x.due("safe(1, 1, 0): 0 is gone", 1);
        x.due("rounds(1): 0 is gone", 2);
        x.due("rounds(2): 1 is in its way", NONE);
        x.due("advance(1)", 1);
        x.due("plan(2, 0): 1 is gone", 4);
    }

    private static void planFromWhatIsTurned() {
        Run x = zigzag();
        x.does("turn(0, 2)");
        x.due("rounds(0)", 1);
        x.due("plan(0, 0)", 5);
        x.does("reverse(0)");
        x.does("force(0, 4)");
        x.due("rounds(0): it is not sound by turned", NONE);
        x.does("force(0, 2)");
        x.due("plan(0, 0): it is again", 1);
        x.does("force(0, 1)");
        x.does("link(1, 3, 0)");
        x.due("rounds(0): all are turned, sound or not", 0);
    }

    private static void rounds() {
        check.promise(28, "rounds");
        Run x = zigzag();
        x.due("rounds(0)", 2);
        x.due("rounds(1): no movers, not sound", 0);
        x.does("want(14)");
        x.due("rounds(0): that it arrives is not wanted", 2);
        x.does("want(13)");
        x.due("rounds(0): rings are no matter", 2);
        x.does("want(12)");
        x.due("rounds(0): neither", 1);
        x.does("want(15)");
        x.does("link(0, 2, 1)");
        x.due("rounds(0): no room", NONE);
        x.due("rounds(3)", UNKNOWN);
        x.due("rounds(-1)", UNKNOWN);
    }

    /** Flows from 0 to 5, each by one of the nodes 1 to 4; a node has room for one of them alone. */
    private static Run lanes(int[] before, int[] behind) {
        Run x = Run.of(check, "net 6;flow 0 0 5 3;flow 1 0 5 3;flow 2 0 5 3");
        for (int k = 0; k < 3; k++) {
            x.write("old " + k + " 0 " + before[k] + ";old " + k + " " + before[k] + " 5;");
            x.write("new " + k + " 0 " + behind[k] + ";new " + k + " " + behind[k] + " 5");
            x.does("rules()");
        }
        for (int lane = 1; lane <= 4; lane++) {
            x.does("link(0, " + lane + ", 5)");
            x.does("link(" + lane + ", 5, 5)");
        }
        return x;
    }

    private static void orderIs(Run x, String when, int... want) {
        for (int k = 0; k < 3; k++) {
            x.due("order(" + k + "): " + when, want[k]);
        }
    }

    private static void order() {
        check.promise(29, "order");
        orderIs(new Run(check), "nothing moves", 0, 1, 2);
        Run chain = lanes(new int[] {1, 3, 2}, new int[] {2, 4, 3});
        orderIs(chain, "0 waits for 2, 2 for 1", 1, 2, 0);
        orderIs(lanes(new int[] {1, 2, 3}, new int[] {4, 1, 2}), "1 waits for 0, 2 for 1", 0, 1, 2);
        orderIs(lanes(new int[] {1, 2, 3}, new int[] {2, 4, 1}), "0 waits for 1, 2 for 0", 1, 0, 2);
        orderIs(lanes(new int[] {1, 2, 3}, new int[] {3, 1, 4}), "1 waits for 0, 0 for 2", 2, 0, 1);
        orderIs(lanes(new int[] {1, 2, 3}, new int[] {2, 3, 4}), "0 waits for 1, 1 for 2", 2, 1, 0);
        orderIs(lanes(new int[] {1, 2, 3}, new int[] {4, 2, 1}), "2 waits for 0", 0, 1, 2);
        orderIs(lanes(new int[] {1, 2, 3}, new int[] {1, 3, 4}), "0 stays, 1 waits for 2", 0, 2, 1);
        Run swap = lanes(new int[] {1, 2, 3}, new int[] {2, 1, 4});
        orderIs(swap, "0 and 1 wait for one another", NONE, NONE, NONE);
        swap.due("order(3), there being none", OUTSIDE);
        swap.does("want(7)");
        orderIs(swap, "room is not wanted", 0, 1, 2);
        swap.due("order(-1)", OUTSIDE);
        swap.due("order(3)", OUTSIDE);
        chain.due("flow(1, 5): nothing was turned", 0);
    }

    private static void orderFromWhatIsTurned() {
        Run x = lanes(new int[] {1, 2, 3}, new int[] {2, 3, 4});
        x.does("force(2, 16)");
        orderIs(x, "a round is done", 2, 1, 0);
        x.does("force(2, 1)");
        orderIs(x, "2 is out of the way", 1, 0, 2);
        Run stuck = lanes(new int[] {1, 2, 3}, new int[] {1, 2, 4});
        stuck.does("force(2, 1)");
        orderIs(stuck, "2 is not sound by turned", NONE, NONE, NONE);
        stuck.does("force(2, 24)");
        orderIs(stuck, "all its movers are turned", 0, 1, 2);
    }

    private static void waits() {
        check.promise(30, "waits");
        Run x = lanes(new int[] {1, 2, 3}, new int[] {2, 1, 4});
        int[][] all = {{0, 1, 0}, {1, 0, 0}, {0, 0, 0}};
        for (int k = 0; k < 3; k++) {
            for (int other = 0; other < 3; other++) {
                x.due("waits(" + k + ", " + other + ")", all[k][other]);
            }
        }
        x.does("link(2, 5, 6)");
        x.due("waits(0, 1): room on one of two links", 1);
        x.does("link(0, 2, 6)");
        x.due("waits(0, 1): room", 0);
        x.does("link(0, 2, 2)");
        x.due("waits(0, 1): no room without it", 0);
        x.does("link(0, 2, 5)");
        x.does("link(2, 5, 0)");
        x.due("waits(0, 1): it does not arrive", 0);
        x.does("link(2, 5, 5)");
        x.does("force(1, 1)");
        x.due("waits(0, 1): the other one is turned", 0);
        x.due("waits(1, 0): by all its movers yet", 1);
        x.due("waits(3, 0)", UNKNOWN);
        x.due("waits(0, 3)", UNKNOWN);
        x.due("waits(-1, 0)", UNKNOWN);
        x.due("waits(0, -1)", UNKNOWN);
        x.due("waits(3, 3)", UNKNOWN);
    }

    private static void waitsForOneOfTwo() {
        Run x = lanes(new int[] {1, 2, 2}, new int[] {2, 3, 4});
        x.due("waits(0, 1): both are in the way", 0);
        x.does("link(0, 2, 6)");
        x.does("link(2, 5, 6)");
        x.due("waits(0, 1): either may go", 1);
        x.due("waits(0, 2): either may go", 1);
        x.due("waits(0, 0)", 0);
        Run same = lanes(new int[] {1, 2, 3}, new int[] {1, 4, 4});
        same.due("waits(0, 0): it does not go there twice", 0);
        same.due("waits(0, 1): it does not go there twice", 0);
        same.does("force(2, 17)");
        same.due("waits(1, 2): turned by now", 1);
        same.does("link(4, 5, 3)");
        same.due("waits(1, 2): just enough without it", 1);
        same.due("waits(1, 0)", 0);
        same.due("waits(2, 2)", 0);
    }

    private static void letter() {
        check.promise(31, "letter");
        Run x = zigzag();
        x.does("send(0)");
        x.does("tick()");
        x.does("force(0, 4)");
        x.does("force(0, 2)");
        x.does("reverse(0)");
        x.does("send(0)");
        x.does("reverse(0)");
        x.does("ready(0)");
        x.does("flip(0)");
        x.does("send(0)");
        int[][] all = {{0, 1, 1, 0, 4, 0}, {0, 0, 0, 0, 1, 0}, {0, 0, 0, 1, 0, 0}};
        for (int i = 0; i < 3; i++) {
            for (int what = 0; what < 6; what++) {
                x.due("letter(" + i + ", " + what + ")", all[i][what]);
            }
        }
        x.due("letter(3, 0)", UNKNOWN);
        x.due("letter(3, 6)", UNKNOWN);
        x.due("letter(-1, 0)", UNKNOWN);
        x.due("letter(" + Integer.MAX_VALUE + ", 0)", UNKNOWN);
        x.due("letter(0, 6)", OUTSIDE);
        x.due("letter(0, -1)", OUTSIDE);
    }

    private static void count() {
        check.promise(32, "count");
        Run x = Run.of(check, "net 5;link 0 4 2;link 4 0 2;link 4 1 2;flow 1 0 4 1;post 1 2;old 0 0 4;old 0 4 1",
                "old 1 0 4;new 1 0 3;old 2 0 3");
        x.does("want(6)");
        x.does("slots(5)");
        for (int k = 0; k < 3; k++) {
            x.does("send(" + k + ")");
        }
        x.does("tick()");
        x.write("ne");
        x.does("ready(1)");
        int[] all = {5, 3, 6, 5, 1, 1, 1, 0, 1, 2, 4};
        for (int what = 0; what < all.length; what++) {
            x.due("count(" + what + ")", all[what]);
        }
        x.does("tick()");
        x.due("count(4)", 0);
        x.due("count(5)", 2);
        x.due("count(6): flow 0 has no post", 1);
        Run posted = Run.of(check, "net 3;post 0 2;link 0 1 1;link 0 2 1;link 2 1 1;old 0 0 2;old 0 2 1;new 0 0 1");
        posted.does("send(0)");
        posted.does("tick()");
        posted.does("tick()");
        posted.due("count(6): it met its post", 0);
        posted.does("force(0, 1)");
        posted.does("send(0)");
        posted.does("tick()");
        posted.due("count(6): the next one did not", 1);
        x.due("count(11)", OUTSIDE);
        x.due("count(-1)", OUTSIDE);
    }
}
