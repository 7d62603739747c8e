/** Promises 24 to 32: what is found. */
public final class FoundTest {
    private static final int NONE = -1, UNKNOWN = -2, OUTSIDE = -3, NOT = -4;
    private static final Check check = new Check();
    /** Flow 0 goes 0 1 2 3 by old and 0 2 1 3 by new rules; a set with node 2 and not node 1 has a ring. */
    private static final String WAYS = "net 4;flow 0 0 3 2;old 0 0 1;old 0 1 2;old 0 2 3;new 0 0 2;new 0 2 1;new 0 1 3";
    private static final String LINKS = "link 0 1 5;link 1 2 5;link 2 3 5;link 0 2 5;link 2 1 5;link 1 3 5";

    public static void main(String[] args) {
        sound();
        soundAmongOthers();
        walk();
        safe();
        safeByWhatIsWanted();
        plan();
        planOfManyRounds();
        planTakesTheGreatest();
        planTakesTheFewest();
        planFromWhatIsTurned();
        planAmongOthers();
        rounds();
        order();
        orderFromWhatIsTurned();
        waits();
        waitsForOneOfTwo();
        letter();
        count();
        check.end();
    }

    private static MixedRules zigzag() {
        return Check.of(WAYS, LINKS);
    }

    private static void sound() {
        check.promise(24, "sound");
        MixedRules x = zigzag();
        int[] all = {15, 15, 15, 15, 12, 12, 15, 15};
        for (int set = 0; set < all.length; set++) {
            check.due("sound(0, " + set + ")", x.sound(0, set), all[set]);
        }
        check.due("sound(0, 8)", x.sound(0, 8), OUTSIDE);
        check.due("sound(0, -1)", x.sound(0, -1), OUTSIDE);
        check.due("sound(0, 256)", x.sound(0, 256), OUTSIDE);
        check.due("sound(3, 0)", x.sound(3, 0), UNKNOWN);
        check.due("sound(-1, 8)", x.sound(-1, 8), UNKNOWN);
        x.force(0, 7);
        check.due("sound(0, 4): not by turned", x.sound(0, 4), 12);
        x.link(2, 3, 1);
        check.due("sound(0, 0): no room", x.sound(0, 0), 7);
        x.link(2, 3, 2);
        check.due("sound(0, 0): just enough", x.sound(0, 0), 15);
        x.link(2, 3, 0);
        check.due("sound(0, 0): no link, and no ring by that", x.sound(0, 0), 14);
        x.want(0);
        check.due("sound(0, 0): whatever is wanted", x.sound(0, 0), 14);
        MixedRules ring = Check.of("net 4;link 0 1 1;old 0 0 1;old 0 2 3;old 0 3 2");
        check.due("sound(0, 0): a ring that the walk does not meet, without links", ring.sound(0, 0), 13);
        MixedRules post = Check.of("net 3;post 0 2;link 0 1 1;link 0 2 1;old 0 0 1;new 0 0 2;new 0 2 0");
        check.due("sound(0, 0): past its post", post.sound(0, 0), 11);
        check.due("sound(0, 1): to its post and no further", post.sound(0, 1), 14);
        check.due("sound(0, 5): it meets its post, in a ring", post.sound(0, 5), 12);
        check.due("sound(0, 4): a rule from where it does not come", post.sound(0, 4), 11);
    }

    private static void soundAmongOthers() {
        MixedRules x = Check.of("net 4;flow 0 0 3 3;flow 1 0 3 2;flow 2 0 2 4;link 0 1 9;link 1 3 5;link 1 2 9",
                "old 0 0 1;old 0 1 3;old 1 0 1;old 1 1 3;old 2 0 1;new 1 0 2");
        check.due("sound(0, 0): 9 in 9, 5 in 5", x.sound(0, 0), 15);
        x.link(1, 3, 4);
        check.due("sound(0, 0): 5 in 4", x.sound(0, 0), 7);
        check.due("sound(1, 0): 5 in 4", x.sound(1, 0), 7);
        check.due("sound(2, 0): 9 in 9, and it ends before", x.sound(2, 0), 14);
        x.link(0, 1, 8);
        check.due("sound(2, 0): 9 in 8, one of them ends before", x.sound(2, 0), 6);
        x.force(1, 1);
        check.due("sound(0, 0): the other one by turned", x.sound(0, 0), 15);
        check.due("sound(2, 0): the other one by turned", x.sound(2, 0), 14);
    }

    private static void walk() {
        check.promise(25, "walk");
        MixedRules x = zigzag();
        int[][] all = {{15, 4, 3}, {13, 3, 3}, {11, 3, 3}, {13, 3, 3}, {7, 3, 2}, {7, 3, 1}, {11, 3, 3}, {15, 4, 3}};
        for (int set = 0; set < all.length; set++) {
            for (int what = 0; what < 3; what++) {
                check.due("walk(0, " + set + ", " + what + ")", x.walk(0, set, what), all[set][what]);
            }
        }
        check.due("walk(0, 0, 3)", x.walk(0, 0, 3), OUTSIDE);
        check.due("walk(0, 0, -1)", x.walk(0, 0, -1), OUTSIDE);
        check.due("walk(0, 8, 0)", x.walk(0, 8, 0), OUTSIDE);
        check.due("walk(0, -8, 0)", x.walk(0, -8, 0), OUTSIDE);
        check.due("walk(3, 8, 3)", x.walk(3, 8, 3), UNKNOWN);
        check.due("walk(-1, 0, 0)", x.walk(-1, 0, 0), UNKNOWN);
        x.link(1, 2, 0);
        check.due("walk(0, 0, 0): no link", x.walk(0, 0, 0), 3);
        check.due("walk(0, 0, 2): no link", x.walk(0, 0, 2), 1);
        check.due("walk(1, 0, 1): no rules", x.walk(1, 0, 1), 1);
    }

    private static void safe() {
        check.promise(26, "safe");
        MixedRules x = zigzag();
        int[][] all = {{1, NONE, NONE}, {1, NONE, NONE}, {1, NONE, NONE}, {0, 4, 0}, {0, 4, 0}, {0, 4, 0}, {0, 4, 0}};
        for (int set = 1; set <= all.length; set++) {
            for (int what = 0; what < 3; what++) {
                check.due("safe(0, " + set + ", " + what + ")", x.safe(0, set, what), all[set - 1][what]);
            }
        }
        x.turn(0, 1);
        check.due("safe(0, 4, 1): with what is turned", x.safe(0, 4, 1), 5);
        check.due("safe(0, 1, 0): it is turned", x.safe(0, 1, 0), OUTSIDE);
        check.due("safe(0, 0, 0)", x.safe(0, 0, 0), OUTSIDE);
        check.due("safe(0, 8, 0)", x.safe(0, 8, 0), OUTSIDE);
        check.due("safe(0, 2, 3)", x.safe(0, 2, 3), OUTSIDE);
        check.due("safe(0, 2, -1)", x.safe(0, 2, -1), OUTSIDE);
        check.due("safe(3, 0, 3)", x.safe(3, 0, 3), UNKNOWN);
        check.due("safe(-1, 2, 0)", x.safe(-1, 2, 0), UNKNOWN);
    }

    private static void safeByWhatIsWanted() {
        MixedRules x = Check.of(WAYS, LINKS, "post 0 2");
        check.due("safe(0, 6, 1)", x.safe(0, 6, 1), 2);
        check.due("safe(0, 6, 2): past its post", x.safe(0, 6, 2), 2);
        x.want(11);
        check.due("safe(0, 6, 1): the post is not wanted", x.safe(0, 6, 1), 4);
        x.want(10);
        check.due("safe(0, 6, 2): nor that it arrives", x.safe(0, 6, 2), 1);
        x.want(8);
        check.due("safe(0, 6, 0): nor that there is no ring", x.safe(0, 6, 0), 1);
        x.link(1, 3, 1);
        check.due("safe(0, 6, 1): no room", x.safe(0, 6, 1), 2);
        check.due("safe(0, 6, 2): no room", x.safe(0, 6, 2), 3);
        x.link(0, 1, 1);
        check.due("safe(0, 6, 1): none by turned", x.safe(0, 6, 1), 0);
        x.want(0);
        check.due("safe(0, 7, 0): nothing is wanted", x.safe(0, 7, 0), 1);
    }

    private static void plan() {
        check.promise(27, "plan");
        MixedRules x = zigzag();
        check.due("plan(0, 0)", x.plan(0, 0), 3);
        check.due("plan(0, 1)", x.plan(0, 1), 4);
        check.due("plan(0, 2)", x.plan(0, 2), OUTSIDE);
        check.due("plan(0, -1)", x.plan(0, -1), OUTSIDE);
        check.due("plan(0, the greatest)", x.plan(0, Integer.MAX_VALUE), OUTSIDE);
        check.due("plan(1, 0): no movers", x.plan(1, 0), OUTSIDE);
        check.due("plan(3, 0)", x.plan(3, 0), UNKNOWN);
        check.due("plan(-1, -1)", x.plan(-1, -1), UNKNOWN);
        x.want(0);
        check.due("plan(0, 0): nothing is wanted", x.plan(0, 0), 7);
        x.want(15);
        x.link(1, 3, 0);
        check.due("plan(0, 0): there is none", x.plan(0, 0), NOT);
        check.due("plan(0, -1): there is none", x.plan(0, -1), NOT);
    }

    /** By old 0 1 2 3 4 5, by new 0 4 3 2 1 5: of 1 to 4 each must wait till the one behind it by new is turned. */
    private static void planOfManyRounds() {
        MixedRules x = Check.of("net 6;flow 0 0 5 1;old 0 0 1;old 0 1 2;old 0 2 3;old 0 3 4;old 0 4 5",
                "new 0 0 4;new 0 4 3;new 0 3 2;new 0 2 1;new 0 1 5");
        for (int from = 0; from < 6; from++) {
            for (int to = 0; to < 6; to++) {
                x.link(from, to, from == to ? 0 : 1);
            }
        }
        check.due("rounds(0)", x.rounds(0), 4);
        int[] all = {3, 4, 8, 16};
        for (int k = 0; k < all.length; k++) {
            check.due("plan(0, " + k + ")", x.plan(0, k), all[k]);
        }
        check.due("plan(0, 4)", x.plan(0, 4), OUTSIDE);
        x.want(1);
        check.due("rounds(0): rings that no walk meets are fine", x.rounds(0), 3);
        check.due("plan(0, 0) then", x.plan(0, 0), 3);
        check.due("plan(0, 1) then", x.plan(0, 1), 12);
        check.due("plan(0, 2) then", x.plan(0, 2), 16);
    }

    /** Node 2 has a new rule alone, and 0 may turn when 2 has; 3 and 4 may turn at any time. */
    private static void planTakesTheGreatest() {
        MixedRules x = Check.of("net 6;flow 0 0 1 1;old 0 0 1;new 0 0 2;new 0 2 1;new 0 3 1;old 0 4 1",
                "link 0 1 1;link 0 2 1;link 2 1 1");
        check.due("flow(0, 4)", x.flow(0, 4), 29);
        check.due("rounds(0)", x.rounds(0), 2);
        check.due("plan(0, 0): as great as it can be", x.plan(0, 0), 28);
        check.due("plan(0, 1)", x.plan(0, 1), 1);
    }

    /** A plan may begin with 9 too, but has four rounds then. */
    private static void planTakesTheFewest() {
        MixedRules x = Check.of("net 6;flow 0 0 5 1;post 0 4;old 0 0 3;old 0 3 2;old 0 2 1;old 0 1 4;old 0 4 5",
                "new 0 0 2;new 0 2 3;new 0 3 4;new 0 4 1;new 0 1 5");
        for (int from = 0; from < 6; from++) {
            for (int to = 0; to < 6; to++) {
                x.link(from, to, 1);
            }
        }
        int[] all = {8, 6, 17};
        check.due("rounds(0): the fewest", x.rounds(0), all.length);
        for (int k = 0; k < all.length; k++) {
            check.due("plan(0, " + k + "): of the fewest", x.plan(0, k), all[k]);
        }
        check.due("turn(0, 9)", x.turn(0, 9), 9);
        check.due("rounds(0) behind it", x.rounds(0), 3);
    }

    private static void planAmongOthers() {
        MixedRules x = lanes(new int[] {1, 2, 3}, new int[] {4, 1, 2});
        check.due("rounds(0)", x.rounds(0), 3);
        check.due("plan(0, 0)", x.plan(0, 0), 16);
        check.due("rounds(1): 0 is in its way", x.rounds(1), NONE);
        check.due("plan(1, 0): 0 is in its way", x.plan(1, 0), NOT);
        check.due("advance(1): 0 is in its way", x.advance(1), NONE);
        check.due("safe(1, 2, 0): nobody goes there yet", x.safe(1, 2, 0), 1);
        check.due("turn(1, 2)", x.turn(1, 2), 2);
        check.due("safe(1, 1, 1): 0 is in its way", x.safe(1, 1, 1), 3);
        check.due("safe(1, 1, 2): 0 is in its way", x.safe(1, 1, 2), 3);
        check.due("turn(1, 1): 0 is in its way", x.turn(1, 1), NOT);
        check.due("advance(0)", x.advance(0), 16);
        check.due("advance(0) again", x.advance(0), 1);
        check.due("safe(1, 1, 0): 0 is gone", x.safe(1, 1, 0), 1);
        check.due("rounds(1): 0 is gone", x.rounds(1), 2);
        check.due("rounds(2): 1 is in its way", x.rounds(2), NONE);
        check.due("advance(1)", x.advance(1), 1);
        check.due("plan(2, 0): 1 is gone", x.plan(2, 0), 4);
    }

    private static void planFromWhatIsTurned() {
        MixedRules x = zigzag();
        x.turn(0, 2);
        check.due("rounds(0)", x.rounds(0), 1);
        check.due("plan(0, 0)", x.plan(0, 0), 5);
        x.reverse(0);
        x.force(0, 4);
        check.due("rounds(0): it is not sound by turned", x.rounds(0), NONE);
        x.force(0, 2);
        check.due("plan(0, 0): it is again", x.plan(0, 0), 1);
        x.force(0, 1);
        x.link(1, 3, 0);
        check.due("rounds(0): all are turned, sound or not", x.rounds(0), 0);
    }

    private static void rounds() {
        check.promise(28, "rounds");
        MixedRules x = zigzag();
        check.due("rounds(0)", x.rounds(0), 2);
        check.due("rounds(1): no movers, not sound", x.rounds(1), 0);
        x.want(14);
        check.due("rounds(0): that it arrives is not wanted", x.rounds(0), 2);
        x.want(13);
        check.due("rounds(0): rings are no matter", x.rounds(0), 2);
        x.want(12);
        check.due("rounds(0): neither", x.rounds(0), 1);
        x.want(15);
        x.link(0, 2, 1);
        check.due("rounds(0): no room", x.rounds(0), NONE);
        check.due("rounds(3)", x.rounds(3), UNKNOWN);
        check.due("rounds(-1)", x.rounds(-1), UNKNOWN);
    }

    /** Flows from 0 to 5, each by one of the nodes 1 to 4; a node has room for one of them alone. */
    private static MixedRules lanes(int[] before, int[] behind) {
        MixedRules x = Check.of("net 6;flow 0 0 5 3;flow 1 0 5 3;flow 2 0 5 3");
        for (int k = 0; k < 3; k++) {
            Check.write(x, "old " + k + " 0 " + before[k] + ";old " + k + " " + before[k] + " 5;");
            Check.write(x, "new " + k + " 0 " + behind[k] + ";new " + k + " " + behind[k] + " 5");
            x.rules();
        }
        for (int lane = 1; lane <= 4; lane++) {
            x.link(0, lane, 5);
            x.link(lane, 5, 5);
        }
        return x;
    }

    private static void orderIs(MixedRules x, String when, int... want) {
        for (int k = 0; k < 3; k++) {
            check.due("order(" + k + "): " + when, x.order(k), want[k]);
        }
    }

    private static void order() {
        check.promise(29, "order");
        orderIs(new MixedRules(), "nothing moves", 0, 1, 2);
        MixedRules chain = lanes(new int[] {1, 3, 2}, new int[] {2, 4, 3});
        orderIs(chain, "0 waits for 2, 2 for 1", 1, 2, 0);
        orderIs(lanes(new int[] {1, 2, 3}, new int[] {4, 1, 2}), "1 waits for 0, 2 for 1", 0, 1, 2);
        orderIs(lanes(new int[] {1, 2, 3}, new int[] {2, 4, 1}), "0 waits for 1, 2 for 0", 1, 0, 2);
        orderIs(lanes(new int[] {1, 2, 3}, new int[] {3, 1, 4}), "1 waits for 0, 0 for 2", 2, 0, 1);
        orderIs(lanes(new int[] {1, 2, 3}, new int[] {2, 3, 4}), "0 waits for 1, 1 for 2", 2, 1, 0);
        orderIs(lanes(new int[] {1, 2, 3}, new int[] {4, 2, 1}), "2 waits for 0", 0, 1, 2);
        orderIs(lanes(new int[] {1, 2, 3}, new int[] {1, 3, 4}), "0 stays, 1 waits for 2", 0, 2, 1);
        MixedRules swap = lanes(new int[] {1, 2, 3}, new int[] {2, 1, 4});
        orderIs(swap, "0 and 1 wait for one another", NONE, NONE, NONE);
        check.due("order(3), there being none", swap.order(3), OUTSIDE);
        swap.want(7);
        orderIs(swap, "room is not wanted", 0, 1, 2);
        check.due("order(-1)", swap.order(-1), OUTSIDE);
        check.due("order(3)", swap.order(3), OUTSIDE);
        check.due("flow(1, 5): nothing was turned", chain.flow(1, 5), 0);
    }

    private static void orderFromWhatIsTurned() {
        MixedRules x = lanes(new int[] {1, 2, 3}, new int[] {2, 3, 4});
        x.force(2, 16);
        orderIs(x, "a round is done", 2, 1, 0);
        x.force(2, 1);
        orderIs(x, "2 is out of the way", 1, 0, 2);
        MixedRules stuck = lanes(new int[] {1, 2, 3}, new int[] {1, 2, 4});
        stuck.force(2, 1);
        orderIs(stuck, "2 is not sound by turned", NONE, NONE, NONE);
        stuck.force(2, 24);
        orderIs(stuck, "all its movers are turned", 0, 1, 2);
    }

    private static void waits() {
        check.promise(30, "waits");
        MixedRules x = lanes(new int[] {1, 2, 3}, new int[] {2, 1, 4});
        int[][] all = {{0, 1, 0}, {1, 0, 0}, {0, 0, 0}};
        for (int k = 0; k < 3; k++) {
            for (int other = 0; other < 3; other++) {
                check.due("waits(" + k + ", " + other + ")", x.waits(k, other), all[k][other]);
            }
        }
        x.link(2, 5, 6);
        check.due("waits(0, 1): room on one of two links", x.waits(0, 1), 1);
        x.link(0, 2, 6);
        check.due("waits(0, 1): room", x.waits(0, 1), 0);
        x.link(0, 2, 2);
        check.due("waits(0, 1): no room without it", x.waits(0, 1), 0);
        x.link(0, 2, 5);
        x.link(2, 5, 0);
        check.due("waits(0, 1): it does not arrive", x.waits(0, 1), 0);
        x.link(2, 5, 5);
        x.force(1, 1);
        check.due("waits(0, 1): the other one is turned", x.waits(0, 1), 0);
        check.due("waits(1, 0): by all its movers yet", x.waits(1, 0), 1);
        check.due("waits(3, 0)", x.waits(3, 0), UNKNOWN);
        check.due("waits(0, 3)", x.waits(0, 3), UNKNOWN);
        check.due("waits(-1, 0)", x.waits(-1, 0), UNKNOWN);
        check.due("waits(0, -1)", x.waits(0, -1), UNKNOWN);
        check.due("waits(3, 3)", x.waits(3, 3), UNKNOWN);
    }

    private static void waitsForOneOfTwo() {
        MixedRules x = lanes(new int[] {1, 2, 2}, new int[] {2, 3, 4});
        check.due("waits(0, 1): both are in the way", x.waits(0, 1), 0);
        x.link(0, 2, 6);
        x.link(2, 5, 6);
        check.due("waits(0, 1): either may go", x.waits(0, 1), 1);
        check.due("waits(0, 2): either may go", x.waits(0, 2), 1);
        check.due("waits(0, 0)", x.waits(0, 0), 0);
        MixedRules same = lanes(new int[] {1, 2, 3}, new int[] {1, 4, 4});
        check.due("waits(0, 0): it does not go there twice", same.waits(0, 0), 0);
        check.due("waits(0, 1): it does not go there twice", same.waits(0, 1), 0);
        same.force(2, 17);
        check.due("waits(1, 2): turned by now", same.waits(1, 2), 1);
        same.link(4, 5, 3);
        check.due("waits(1, 2): just enough without it", same.waits(1, 2), 1);
        check.due("waits(1, 0)", same.waits(1, 0), 0);
        check.due("waits(2, 2)", same.waits(2, 2), 0);
    }

    private static void letter() {
        check.promise(31, "letter");
        MixedRules x = zigzag();
        x.send(0);
        x.tick();
        x.force(0, 4);
        x.force(0, 2);
        x.reverse(0);
        x.send(0);
        x.reverse(0);
        x.ready(0);
        x.flip(0);
        x.send(0);
        int[][] all = {{0, 1, 1, 0, 4, 0}, {0, 0, 0, 0, 1, 0}, {0, 0, 0, 1, 0, 0}};
        for (int i = 0; i < 3; i++) {
            for (int what = 0; what < 6; what++) {
                check.due("letter(" + i + ", " + what + ")", x.letter(i, what), all[i][what]);
            }
        }
        check.due("letter(3, 0)", x.letter(3, 0), UNKNOWN);
        check.due("letter(3, 6)", x.letter(3, 6), UNKNOWN);
        check.due("letter(-1, 0)", x.letter(-1, 0), UNKNOWN);
        check.due("letter(the greatest, 0)", x.letter(Integer.MAX_VALUE, 0), UNKNOWN);
        check.due("letter(0, 6)", x.letter(0, 6), OUTSIDE);
        check.due("letter(0, -1)", x.letter(0, -1), OUTSIDE);
    }

    private static void count() {
        check.promise(32, "count");
        MixedRules x = Check.of("net 5;link 0 4 2;link 4 0 2;link 4 1 2;flow 1 0 4 1;post 1 2;old 0 0 4;old 0 4 1",
                "old 1 0 4;new 1 0 3;old 2 0 3");
        x.want(6);
        x.slots(5);
        for (int k = 0; k < 3; k++) {
            x.send(k);
        }
        x.tick();
        x.write('n');
        x.write('e');
        x.ready(1);
        int[] all = {5, 3, 6, 5, 1, 1, 1, 0, 1, 2, 4};
        for (int what = 0; what < all.length; what++) {
            check.due("count(" + what + ")", x.count(what), all[what]);
        }
        x.tick();
        check.due("count(4)", x.count(4), 0);
        check.due("count(5)", x.count(5), 2);
        check.due("count(6): flow 0 has no post", x.count(6), 1);
        MixedRules posted = Check.of("net 3;post 0 2;link 0 1 1;link 0 2 1;link 2 1 1;old 0 0 2;old 0 2 1;new 0 0 1");
        posted.send(0);
        posted.tick();
        posted.tick();
        check.due("count(6): it met its post", posted.count(6), 0);
        posted.force(0, 1);
        posted.send(0);
        posted.tick();
        check.due("count(6): the next one did not", posted.count(6), 1);
        check.due("count(11)", x.count(11), OUTSIDE);
        check.due("count(-1)", x.count(-1), OUTSIDE);
    }
}
