/** The sentences of 'Terms' that name a boundary: a test for each of them, named by its words. */
public final class EdgeTermsTest {
    private static final int NONE = -1, UNKNOWN = -2, OUTSIDE = -3, NOT = -4;
    private static final Check check = new Check();
    /** By old 0 1 2 3 4 5 6 7, by new 0 2 6 5 4 3 1 7, past 3: each node must turn by itself. */
    private static final String LONG_OLD = "net 8;flow 0 0 7 1;post 0 3;old 0 0 1;old 0 1 2;old 0 2 3;old 0 3 4;old 0 4 5"
            + ";old 0 5 6;old 0 6 7";
    private static final String LONG_NEW = "new 0 0 2;new 0 2 6;new 0 6 5;new 0 5 4;new 0 4 3;new 0 3 1;new 0 1 7";

    public static void main(String[] args) {
        nodes();
        links();
        flows();
        sourcesAndGoals();
        sizes();
        posts();
        rulesOfNodes();
        movers();
        turned();
        rulesBySet();
        walksThatArrive();
        walksWithoutRule();
        walksWithoutLink();
        walksThatComeBack();
        holdsThatItArrives();
        holdsThatThereIsNoRing();
        holdsThatItMeetsItsPost();
        holdsThatThereIsRoom();
        holdsThatThereIsRoomBesideOthers();
        roundsBesideOthers();
        wanted();
        rounds();
        safeByTurned();
        safeByAllOfIt();
        safeByAnyPart();
        plansThatAreNone();
        plansWithoutRounds();
        plansOfTheMostRounds();
        plansAmongSeveral();
        plansOfTheFewestRounds();
        roundsAheadAreTurned();
        orders();
        ordersThatAreNone();
        ordersOfOthersAsTheyAre();
        waiting();
        check.end();
    }

    private static void nodes() {
        check.sentence("NODES are 0 to n less 1 (n 2 to 8; 2 at first)");
        nodesUpTo(new Run(check), 2);
        for (int n = 2; n <= 8; n++) {
            nodesUpTo(Run.of(check, "net " + n), n);
        }
        for (String text : new String[] {"net 0", "net 1", "net 9", "net 10"}) {
            Run x = Run.of(check, "net 5");
            x.write(text);
            x.due("rules() of " + text, NOT);
            x.due("count(0)", 5);
        }
    }

    private static void nodesUpTo(Run x, int n) {
        int last = n - 1;
        x.due("count(0)", n);
        x.due("table(0)", 0);
        x.due("table(" + last + ")", 0);
        x.due("table(" + n + ")", UNKNOWN);
        x.due("table(-1)", UNKNOWN);
        x.due("link(" + last + ", 0, 3)", 0);
        x.due("link(0, " + last + ", 4)", 0);
        x.due("link(" + n + ", 0, 3)", UNKNOWN);
        x.due("link(0, " + n + ", 3)", UNKNOWN);
        x.due("room(" + last + ", 0)", 3);
        x.due("room(0, " + last + ")", 4);
        x.due("room(" + n + ", 0)", UNKNOWN);
        x.due("room(0, " + n + ")", UNKNOWN);
        x.due("load(" + last + ", 0)", 0);
        x.due("load(" + n + ", 0)", UNKNOWN);
        x.due("load(0, " + n + ")", UNKNOWN);
        x.due("rule(2, " + last + ", 0)", NONE);
        x.due("rule(2, " + n + ", 0)", UNKNOWN);
    }

    private static void links() {
        check.sentence("A LINK goes from a NODE to another one, with ROOM 1 to 9 (0: there is no LINK; none at first)");
        Run x = new Run(check);
        x.due("count(1) at first", 0);
        x.due("room(0, 1) at first", 0);
        x.due("room(1, 0) at first", 0);
        x.due("link(0, 1, 1): the least", 0);
        x.due("count(1)", 1);
        x.due("room(1, 0): not back", 0);
        x.due("link(0, 1, 9): the greatest", 1);
        x.due("link(0, 1, 10)", OUTSIDE);
        x.due("link(0, 1, -1)", OUTSIDE);
        x.due("room(0, 1)", 9);
        x.due("link(1, 1, 1): not to itself", UNKNOWN);
        x.due("link(0, 1, 0)", 9);
        x.due("count(1): it is gone", 0);
        x.due("link(0, 1, 0): there is none", 0);
        Run full = Run.of(check, "net 8");
        full.linkAll(8, 9);
        full.due("count(1): all that there can be", 56);
        full.due("room(7, 7)", 0);
        full.due("link(7, 6, 0)", 9);
        full.due("count(1): one less", 55);
    }

    private static void flows() {
        check.sentence("There are FLOWS 0 to 2");
        Run x = new Run(check);
        for (int k = 0; k <= 2; k++) {
            x.due("flow(" + k + ", 2)", 1);
        }
        x.due("flow(3, 2)", UNKNOWN);
        x.due("flow(-1, 2)", UNKNOWN);
        faultOf(x, "flow 2 0 1 1", NONE);
        faultOf(x, "flow 3 0 1 1", 5);
    }

    private static void faultOf(Run x, String text, int want) {
        x.write(text);
        x.due("fault() of '" + text + "'", want);
        x.due("erase() of '" + text + "'", text.length());
    }

    private static void sourcesAndGoals() {
        check.sentence("each has a SOURCE and a GOAL (unlike NODES; 0, 1 at first)");
        Run x = new Run(check);
        for (int k = 0; k <= 2; k++) {
            x.dueFromZero("flow(" + k + ", ", 0, 1);
        }
        x.tell("net 8;flow 0 7 0 1;flow 1 0 7 1");
        x.dueFromZero("flow(0, ", 7, 0);
        x.dueFromZero("flow(1, ", 0, 7);
        x.dueFromZero("flow(2, ", 0, 1);
        faultOf(x, "flow 0 7 7 1", 9);
        faultOf(x, "flow 0 0 0 1", 9);
        faultOf(x, "flow 0 8 0 1", 7);
        faultOf(x, "flow 0 0 8 1", 9);
    }

    private static void sizes() {
        check.sentence("a SIZE (1 to 9; 1)");
        Run x = new Run(check);
        for (int k = 0; k <= 2; k++) {
            x.due("flow(" + k + ", 2) at first", 1);
        }
        x.tell("flow 0 0 1 9;flow 1 0 1 1");
        x.due("flow(0, 2): the greatest", 9);
        x.due("flow(1, 2): the least", 1);
        faultOf(x, "flow 0 0 1 0", 11);
        faultOf(x, "flow 0 0 1 10", 11);
    }

    private static void posts() {
        check.sentence("perhaps a POST (a NODE but these two; none at first)");
        Run x = new Run(check);
        for (int k = 0; k <= 2; k++) {
            x.due("flow(" + k + ", 3) at first", NONE);
        }
        faultOf(x, "post 0 0", 7);
        faultOf(x, "post 0 1", 7);
        faultOf(x, "post 0 2", 7);
        x.tell("net 8;flow 1 3 5 1;post 1 7;post 0 2");
        x.due("flow(0, 3)", 2);
        x.due("flow(1, 3)", 7);
        x.due("flow(2, 3)", NONE);
        faultOf(x, "post 1 3", 7);
        faultOf(x, "post 1 5", 7);
        faultOf(x, "post 1 0", NONE);
        faultOf(x, "post 1 8", 7);
    }

    private static void rulesOfNodes() {
        check.sentence("to each NODE but its GOAL perhaps an OLD rule and perhaps a NEW one: another NODE, to which it goes on"
                + " (none at first)");
        Run x = new Run(check);
        for (int k = 0; k <= 2; k++) {
            for (int node = 0; node <= 1; node++) {
                x.dueFromZero("rule(" + k + ", " + node + ", ", NONE, NONE, NONE);
            }
        }
        for (String word : new String[] {"old", "new"}) {
            faultOf(x, word + " 0 1 0", 6);
            faultOf(x, word + " 0 0 0", 8);
            faultOf(x, word + " 0 0 2", 8);
            faultOf(x, word + " 0 2 1", 6);
        }
        x.tell("net 8;flow 0 0 4 1;old 0 0 7;old 0 7 0;new 0 3 4;new 0 5 7");
        x.dueFromZero("rule(0, 0, ", 7, NONE, 7);
        x.dueFromZero("rule(0, 7, ", 0, NONE, 0);
        x.dueFromZero("rule(0, 3, ", NONE, 4, NONE);
        x.dueFromZero("rule(0, 5, ", NONE, 7, NONE);
        x.dueFromZero("rule(0, 4, ", NONE, NONE, NONE);
        x.dueFromZero("rule(1, 0, ", NONE, NONE, NONE);
        faultOf(x, "old 0 4 0", 6);
        faultOf(x, "new 0 4 0", 6);
    }

    private static void movers() {
        check.sentence("NODES at which OLD and NEW are unlike (there is one and not the other, too)");
        Run x = new Run(check);
        x.due("flow(0, 4): neither old nor new rules", 0);
        x.tell("net 6;flow 0 0 5 1;old 0 1 2;new 0 1 2");
        x.due("flow(0, 4): both are alike", 0);
        x.tell("old 0 2 3;new 0 2 4");
        x.due("flow(0, 4): both are unlike", 4);
        x.tell("old 0 3 0");
        x.due("flow(0, 4): old alone, to node 0", 12);
        x.tell("new 0 4 0");
        x.due("flow(0, 4): new alone, to node 0", 28);
        x.tell("new 0 2 3");
        x.due("flow(0, 4): alike by now", 24);
        x.due("flow(1, 4): of another flow", 0);
        Run most = Run.of(check, "net 8;flow 0 7 0 1;old 0 1 0;old 0 2 0;old 0 3 0;old 0 4 0;old 0 5 0;old 0 6 0;old 0 7 0");
        most.due("flow(0, 4): all but the goal", 254);
    }

    private static void turned() {
        check.sentence("a SET of MOVERS (empty at first)");
        Run x = new Run(check);
        for (int k = 0; k <= 2; k++) {
            x.due("flow(" + k + ", 5) at first", 0);
        }
        x.tell("net 8;flow 0 7 0 1;new 0 1 0;new 0 7 0");
        x.due("flow(0, 5): told", 0);
        x.due("force(0, 128)", 128);
        x.due("force(0, 2)", 130);
        x.due("flow(0, 5): all of them", 130);
        x.due("flow(0, 4)", 130);
    }

    private static void rulesBySet() {
        check.sentence("By a SET the RULE of a NODE is NEW, if it is in the SET, else OLD");
        Run x = Run.of(check, "net 8;flow 0 7 0 1;old 0 7 1;new 0 7 2;new 0 1 0;old 0 2 0");
        x.linkAll(3, 1);
        x.does("link(7, 1, 1)");
        x.does("link(7, 2, 1)");
        x.due("walk(0, 0, 0): old, and no old rule there", 130);
        x.due("walk(0, 2, 0): old and new", 131);
        x.due("walk(0, 128, 0): new and old", 133);
        x.due("walk(0, 132, 0): new, and no new rule there", 132);
        x.due("rule(0, 7, 2)", 1);
        x.does("force(0, 132)");
        x.due("rule(0, 7, 2): new", 2);
        x.due("rule(0, 2, 2): new, there is none", NONE);
        x.due("rule(0, 1, 2): old, there is none", NONE);
    }

    private static void walksThatArrive() {
        check.sentence("It ARRIVES, if it comes to its GOAL");
        Run shortest = Run.of(check, "old 0 0 1;link 0 1 1");
        shortest.due("sound(0, 0)", 15);
        shortest.dueFromZero("walk(0, 0, ", 3, 2, 1);
        Run longest = Run.of(check, LONG_OLD, "link 0 1 1;link 1 2 1;link 2 3 1;link 3 4 1;link 4 5 1;link 5 6 1;link 6 7 1");
        longest.due("sound(0, 0)", 15);
        longest.dueFromZero("walk(0, 0, ", 255, 8, 7);
        longest.does("link(6, 7, 0)");
        longest.due("sound(0, 0): all but the last link", 14);
        longest.dueFromZero("walk(0, 0, ", 127, 7, 6);
    }

    private static void walksWithoutRule() {
        check.sentence("it ends before, where there is no RULE");
        Run x = Run.of(check, "net 4;flow 0 0 3 1;new 0 0 1;old 0 1 2;new 0 1 2;new 0 2 3");
        x.linkAll(4, 1);
        x.dueFromZero("walk(0, 0, ", 1, 1, 0);
        x.due("sound(0, 0): none at its source", 14);
        x.dueFromZero("walk(0, 1, ", 7, 3, 2);
        x.due("sound(0, 1): none next to its goal", 14);
        x.dueFromZero("walk(0, 5, ", 15, 4, 3);
        x.due("sound(0, 5)", 15);
    }

    private static void walksWithoutLink() {
        check.sentence("or no LINK from that NODE to the next one");
        Run x = Run.of(check, "net 4;flow 0 0 3 1;old 0 0 1;old 0 1 3;link 1 0 9;link 3 1 9;link 0 3 9");
        x.dueFromZero("walk(0, 0, ", 1, 1, 0);
        x.does("link(0, 1, 1)");
        x.dueFromZero("walk(0, 0, ", 3, 2, 1);
        x.due("sound(0, 0): links back alone", 14);
        x.does("link(1, 3, 1)");
        x.dueFromZero("walk(0, 0, ", 11, 3, 3);
        x.due("sound(0, 0)", 15);
    }

    private static void walksThatComeBack() {
        check.sentence("or where it would come to a NODE that it met");
        Run x = Run.of(check, "net 8;flow 0 0 7 1;old 0 0 1;old 0 1 2;old 0 2 3;old 0 3 4;old 0 4 5;old 0 5 6;old 0 6 0",
                "new 0 1 0;new 0 6 5;new 0 5 4");
        x.linkAll(8, 1);
        x.dueFromZero("walk(0, 0, ", 127, 7, 6);
        x.due("sound(0, 0): back to its source, by all", 12);
        x.dueFromZero("walk(0, 2, ", 3, 2, 1);
        x.due("sound(0, 2): back to its source at once", 12);
        x.dueFromZero("walk(0, 64, ", 127, 7, 6);
        x.due("sound(0, 64): back by one", 12);
        x.due("load(5, 6)", 1);
        x.due("load(6, 0): the link on which it would come back", 0);
        Run three = Run.of(check, "net 5;flow 0 0 4 1;old 0 0 1;old 0 1 2;old 0 2 3;old 0 3 1");
        three.linkAll(5, 1);
        three.dueFromZero("walk(0, 0, ", 15, 4, 3);
        three.due("sound(0, 0): round by three, not by its source", 12);
        three.due("load(2, 3)", 1);
        three.due("load(3, 1): the link on which it would come back", 0);
    }

    private static void holdsThatItArrives() {
        check.sentence("0 the WALK ARRIVES");
        Run x = Run.of(check, "net 3;link 0 2 1;old 0 0 2;old 0 2 1");
        x.due("sound(0, 0): one link short", 14);
        x.does("link(2, 1, 1)");
        x.due("sound(0, 0)", 15);
        x.due("sound(1, 0): no rule at all", 14);
    }

    private static void holdsThatThereIsNoRing() {
        check.sentence("1 there is no RING: from no NODE RULES lead back to it (LINKS or none)");
        Run two = Run.of(check, "net 8;link 0 1 1;old 0 0 1;old 0 6 7;new 0 7 6;new 0 5 6");
        two.due("sound(0, 0): rules of one node", 15);
        two.due("sound(0, 128): two that lead to one another, without links", 13);
        two.due("sound(0, 160): one that leads to them", 13);
        two.due("sound(0, 32): a row", 15);
        Run all = Run.of(check, "net 8;old 0 0 2;old 0 2 3;old 0 3 4;old 0 4 5;old 0 5 6;old 0 6 7;new 0 7 0;new 0 7 1");
        all.due("sound(0, 0): a row of seven", 14);
        all.due("sound(0, 128): a row of eight, to its goal", 14);
        all.tell("new 0 7 0");
        all.due("sound(0, 128): a ring of seven", 12);
        all.due("sound(0, 0): it is not in the set", 14);
        Run goal = Run.of(check, "net 3;link 0 1 1;link 0 2 1;link 2 1 1;old 0 0 1;old 0 2 1;new 0 2 0");
        goal.due("sound(0, 4): back to its source, from where it does not come", 15);
        goal.tell("new 0 0 2");
        goal.due("sound(0, 5): a ring by new", 12);
        goal.due("sound(0, 1): the same by new and old", 15);
    }

    private static void holdsThatItMeetsItsPost() {
        check.sentence("2 the WALK meets the POST (it holds if there is none)");
        Run x = Run.of(check, "net 5;flow 0 0 4 1;old 0 0 1;old 0 1 2;old 0 2 4;old 0 3 4");
        x.linkAll(5, 1);
        x.due("sound(0, 0): there is none", 15);
        x.tell("post 0 3");
        x.due("sound(0, 0): it is beside", 11);
        x.tell("post 0 1");
        x.due("sound(0, 0): next to its source", 15);
        x.tell("post 0 2");
        x.due("sound(0, 0): next to its goal", 15);
        x.does("link(2, 4, 0)");
        x.due("sound(0, 0): it ends there", 14);
        x.does("link(1, 2, 0)");
        x.due("sound(0, 0): it ends ahead of it", 10);
        x.does("link(0, 1, 0)");
        x.due("sound(0, 0): it stays at its source", 10);
        x.due("sound(1, 0): it stays there, and there is none", 14);
    }

    private static void holdsThatThereIsRoom() {
        check.sentence("3 on each LINK that the WALK goes along there is ROOM for its SIZE");
        for (int size = 1; size <= 9; size++) {
            Run x = Run.of(check, "net 3;flow 0 0 2 " + size + ";old 0 0 1;old 0 1 2;link 0 1 9;link 1 2 9;link 2 1 1");
            x.due("link(1, 2, " + size + ")", 9);
            x.due("sound(0, 0): just enough on the last one", 15);
            x.due("link(0, 1, " + size + ")", 9);
            x.due("sound(0, 0): just enough on both", 15);
            x.due("link(1, 2, " + (size - 1) + ")", size);
            x.due("sound(0, 0): less by one on the last one", size == 1 ? 14 : 7);
            x.due("link(1, 2, 9)", size - 1);
            x.due("link(0, 1, " + (size - 1) + ")", size);
            x.due("sound(0, 0): less by one on the first one", size == 1 ? 14 : 7);
        }
        Run none = new Run(check);
        none.due("sound(0, 0): it goes along none", 14);
    }

    private static void holdsThatThereIsRoomBesideOthers() {
        check.sentence("and SIZES of other FLOWS whose WALK by their TURNED goes along it, together");
        Run x = Run.of(check, "net 4;flow 0 0 1 2;flow 1 0 3 3;flow 2 0 1 4;old 0 0 1;old 1 0 1;old 2 0 1;new 1 0 2;new 2 0 1",
                "link 0 1 9");
        x.due("sound(0, 0): 9 in 9", 15);
        x.due("sound(1, 0): 9 in 9, and no way on", 14);
        x.does("link(0, 1, 8)");
        x.due("sound(0, 0): 9 in 8", 7);
        x.due("sound(2, 0): 9 in 8", 7);
        x.due("sound(1, 0): 9 in 8, and no way on", 6);
        x.due("sound(1, 1): elsewhere by that set", 14);
        x.does("force(1, 1)");
        x.due("sound(0, 0): 6 in 8, the other one is turned", 15);
        x.due("sound(1, 0): 9 in 8 by that set", 6);
        x.does("link(0, 1, 6)");
        x.due("sound(0, 0): 6 in 6", 15);
        x.does("link(0, 1, 5)");
        x.due("sound(0, 0): 6 in 5", 7);
        x.due("sound(1, 1): it does not go there", 14);
    }

    /** Two flows that change places by 1 and 2, and a third one: as they are now, not as they will be. */
    private static void roundsBesideOthers() {
        check.sentence("SIZES of other FLOWS whose WALK by their TURNED goes along it, together");
        for (int k = 1; k <= 2; k++) {
            Run x = k == 1 ? lanes(1, 2, 3, 4, 1, 3) : lanes(1, 3, 2, 4, 3, 1);
            String flow = "(" + k;
            x.due("safe" + flow + ", 2, 0): nobody goes there yet", 1);
            x.due("load(0, 1)", 3);
            x.due("turn" + flow + ", 2)", 2);
            x.due("load(0, 1): all flows weigh there, itself too", 3);
            x.dueFromZero("safe" + flow + ", 1, ", 0, 3, 3);
            x.due("load(0, 1): all flows weigh there, itself too", 3);
            x.due("turn" + flow + ", 1): no room", NOT);
            x.due("rounds" + flow + "): no room", NONE);
            x.due("plan" + flow + ", 0): no room", NOT);
            x.due("advance" + flow + "): no room", NONE);
            x.due("turn(0, 16)", 16);
            x.due("turn(0, 1)", 17);
            x.dueFromZero("safe" + flow + ", 1, ", 1, NONE, NONE);
            x.due("rounds" + flow + ")", 2);
            x.dueFromZero("plan" + flow + ", ", 1, 4, OUTSIDE);
            x.due("advance" + flow + ")", 1);
            x.due("load(0, 1)", 3);
        }
    }

    /** By node 0 the post is missed, by 1 it ends, by 3 there is a ring, by 4 there is no room. */
    private static void wanted() {
        check.sentence("WANTED: a set of these, as bits (15 at first); the FLOW is SOUND by a SET, if all that is WANTED holds");
        String ways = "net 8;flow 0 0 7 2;post 0 1;old 0 0 1;old 0 1 4;old 0 4 7;old 0 2 3;old 0 5 7;new 0 0 7;new 0 4 5";
        String links = "new 0 2 3;new 0 5 7;new 0 3 2;link 0 1 2;link 1 4 2;link 4 7 2;link 0 7 2;link 4 5 1;link 5 7 2";
        Run first = Run.of(check, ways, links);
        first.due("count(2) at first", 15);
        first.due("flow(0, 4)", 27);
        int[] sets = {2, 8, 1, 16};
        for (int half = 0; half < 2; half++) {
            Run x = Run.of(check, ways, links);
            for (int wanted = 8 * half; wanted < 8 * half + 8; wanted++) {
                x.does("want(" + wanted + ")");
                for (int what = 0; what < 4; what++) {
                    boolean safe = (wanted & 1 << what) == 0;
                    x.due("safe(0, " + sets[what] + ", 0) by " + wanted, safe ? 1 : 0);
                    x.due("safe(0, " + sets[what] + ", 2) by " + wanted, safe ? NONE : what);
                }
            }
        }
    }

    private static void rounds() {
        check.sentence("a SET of MOVERS that are not TURNED, one at least");
        Run x = Run.of(check, "net 8;flow 0 7 0 1;new 0 7 0;new 0 6 0;new 0 1 0;old 0 2 0;new 0 2 0");
        x.does("want(0)");
        x.due("safe(0, 0, 0): none", OUTSIDE);
        x.due("safe(0, 2, 0): one", 1);
        x.due("safe(0, 194, 0): all", 1);
        x.due("safe(0, 4, 0): no mover", OUTSIDE);
        x.due("safe(0, 1, 0): its goal", OUTSIDE);
        x.due("safe(0, 198, 0): all and one that is none", OUTSIDE);
        x.due("safe(0, 258, 0): no node", OUTSIDE);
        x.due("turn(0, 64)", 64);
        x.due("safe(0, 64, 0): turned", OUTSIDE);
        x.due("safe(0, 194, 0): one of them is turned", OUTSIDE);
        x.due("safe(0, 130, 0): the rest", 1);
        x.due("turn(0, 130)", 194);
        x.due("safe(0, 2, 0): all are turned", OUTSIDE);
        x.due("turn(0, 0)", OUTSIDE);
        x.due("force(0, 0)", OUTSIDE);
    }

    /** By old 0 1 3, by new 0 2 3. */
    private static Run twoWays() {
        return Run.of(check, "net 4;flow 0 0 3 2;old 0 0 1;old 0 1 3;new 0 0 2;new 0 1 3;new 0 2 3",
                "link 0 1 2;link 1 3 2;link 0 2 2;link 2 3 2");
    }

    private static void safeByTurned() {
        check.sentence("It is SAFE, if the FLOW is SOUND by TURNED");
        Run x = twoWays();
        x.does("link(1, 3, 1)");
        x.due("sound(0, 5): all of it", 15);
        x.due("sound(0, 4): a part of it", 7);
        x.does("force(0, 4)");
        x.dueFromZero("safe(0, 1, ", 0, 4, 3);
        x.due("turn(0, 1)", NOT);
        x.due("rounds(0): no first round is safe", NONE);
        x.due("plan(0, 0)", NOT);
        x.due("advance(0)", NONE);
        x.does("link(1, 3, 2)");
        x.due("rounds(0)", 1);
        x.dueFromZero("safe(0, 1, ", 1, NONE, NONE);
        x.due("turn(0, 1)", 5);
    }

    private static void safeByAllOfIt() {
        check.sentence("by TURNED and all of the ROUND");
        Run x = Run.of(check, "net 5;flow 0 0 4 1;old 0 0 1;old 0 1 4;new 0 0 2;old 0 2 4;new 0 2 1;new 0 1 3;new 0 3 4");
        x.linkAll(5, 1);
        x.does("link(2, 1, 0)");
        x.due("sound(0, 0): by turned", 15);
        x.due("sound(0, 1): by a part", 15);
        x.due("sound(0, 4): by the other part", 15);
        x.due("sound(0, 5): by all of it", 14);
        x.dueFromZero("safe(0, 5, ", 0, 5, 0);
        x.due("turn(0, 5)", NOT);
        x.dueFromZero("safe(0, 1, ", 1, NONE, NONE);
        x.dueFromZero("safe(0, 4, ", 1, NONE, NONE);
    }

    private static void safeByAnyPart() {
        check.sentence("and by TURNED and any part of it");
        Run x = twoWays();
        x.due("sound(0, 0): by turned", 15);
        x.due("sound(0, 5): by all of it", 15);
        x.due("sound(0, 1): by a part", 14);
        x.due("sound(0, 4): by the other part", 15);
        x.dueFromZero("safe(0, 5, ", 0, 1, 0);
        x.due("turn(0, 5)", NOT);
        x.due("turn(0, 4)", 4);
        x.due("turn(0, 1)", 5);
    }

    /** Each node by itself makes it miss its post or go in a ring, but all together do not. */
    private static void plansThatAreNone() {
        check.sentence("behind which all MOVERS are TURNED; there may be none");
        Run x = Run.of(check, "net 5;flow 0 0 4 1;post 0 2;old 0 0 1;old 0 1 2;old 0 2 3;old 0 3 4;new 0 0 3;new 0 3 2;new 0 2 1",
                "new 0 1 4");
        x.linkAll(5, 1);
        x.due("sound(0, 0)", 15);
        x.due("sound(0, 15)", 15);
        x.due("rounds(0)", NONE);
        x.due("plan(0, 0)", NOT);
        x.due("advance(0)", NONE);
        x.does("want(11)");
        x.due("rounds(0): without its post", 3);
        Run begun = twoWays();
        begun.does("link(2, 3, 1)");
        begun.due("rounds(0): a first round is safe, the last is not", NONE);
        begun.due("safe(0, 4, 0)", 1);
        begun.due("advance(0)", NONE);
    }

    private static void plansWithoutRounds() {
        check.sentence("(Of a FLOW whose MOVERS are all TURNED: no ROUNDS.)");
        Run x = new Run(check);
        x.due("rounds(0): there are no movers, and it is not sound", 0);
        x.due("plan(0, 0)", OUTSIDE);
        x.due("advance(0)", NOT);
        Run sound = twoWays();
        sound.does("force(0, 5)");
        sound.due("rounds(0): all are turned", 0);
        sound.due("plan(0, 0)", OUTSIDE);
        sound.due("advance(0)", NOT);
        sound.does("link(2, 3, 0)");
        sound.due("rounds(0): all are turned, and it is not sound", 0);
        sound.does("reverse(0)");
        sound.due("rounds(0): they are not, and there is none", NONE);
    }

    private static void plansOfTheMostRounds() {
        check.sentence("A PLAN of a FLOW: ROUNDS one behind the other, each SAFE when those ahead are TURNED too");
        Run x = Run.of(check, LONG_OLD, LONG_NEW);
        String[] links = {"0, 1", "1, 2", "2, 3", "3, 4", "4, 5", "5, 6", "6, 7", "0, 2", "2, 6", "6, 5", "5, 4", "4, 3", "3, 1",
            "1, 7"};
        for (String link : links) {
            x.does("link(" + link + ", 1)");
        }
        x.due("rounds(0)", 7);
        x.dueFromZero("plan(0, ", 1, 2, 8, 16, 32, 64, 4, OUTSIDE);
        int[] plan = {1, 2, 8, 16, 32, 64, 4};
        for (int k = 0; k < plan.length; k++) {
            x.due("safe(0, " + plan[k] + ", 0)", 1);
            x.due("advance(0)", plan[k]);
            x.due("rounds(0)", 6 - k);
            x.due("flow(0, 7)", k + 1);
        }
        x.due("advance(0): all are turned", NOT);
        for (int k = 6; k >= 0; k--) {
            x.does("reverse(0)");
            x.due("flow(0, 7) taken back", k);
        }
        x.due("reverse(0): none is left", NOT);
    }

    private static void plansAmongSeveral() {
        check.sentence("Of all PLANS that have the fewest ROUNDS it is the one whose first ROUND is the greatest number, of these"
                + " the one whose second is, and so on");
        Run free = Run.of(check, "net 8;flow 0 7 0 1;old 0 7 0;new 0 7 0;new 0 6 0;new 0 5 0;new 0 1 0;link 7 0 1");
        free.due("rounds(0): all at once", 1);
        free.dueFromZero("plan(0, ", 98, OUTSIDE);
        Run two = Run.of(check, "net 6;flow 0 0 1 1;old 0 0 1;new 0 0 2;new 0 2 1;new 0 3 1;old 0 4 1;new 0 5 1",
                "link 0 1 1;link 0 2 1;link 2 1 1");
        two.due("rounds(0): 0 behind 2", 2);
        two.dueFromZero("plan(0, ", 60, 1, OUTSIDE);
        Run three = Run.of(check, "net 6;flow 0 0 3 1;old 0 0 1;old 0 1 3;old 0 2 5;new 0 0 2;new 0 2 3;new 0 5 2",
                "link 0 1 1;link 1 3 1;link 0 2 1;link 2 3 1");
        three.due("rounds(0): 0 behind 2, 1 behind 0, 5 behind 2", 3);
        three.dueFromZero("plan(0, ", 4, 33, 2, OUTSIDE);
    }

    /** By old 0 3 2 1 4 5, by new 0 2 3 4 1 5, past 4: 9 may be first too, but then there are four rounds. */
    private static void plansOfTheFewestRounds() {
        check.sentence("Of all PLANS that have the fewest ROUNDS");
        Run x = Run.of(check, "net 6;flow 0 0 5 1;post 0 4;old 0 0 3;old 0 3 2;old 0 2 1;old 0 1 4;old 0 4 5",
                "new 0 0 2;new 0 2 3;new 0 3 4;new 0 4 1;new 0 1 5");
        x.linkAll(6, 1);
        x.due("rounds(0)", 3);
        x.dueFromZero("plan(0, ", 8, 6, 17, OUTSIDE);
        x.due("safe(0, 9, 0): greater, and safe", 1);
        x.due("turn(0, 9)", 9);
        x.due("rounds(0): three more", 3);
    }

    /** 2 must turn ahead of 0, and 0 ahead of 1: the first round alone would not tell that the third is safe. */
    private static void roundsAheadAreTurned() {
        check.sentence("each SAFE when those ahead are TURNED too, behind which all MOVERS are TURNED");
        Run x = Run.of(check, "net 4;flow 0 0 3 1;old 0 0 1;old 0 1 3;new 0 0 2;new 0 2 3;link 0 1 1;link 1 3 1;link 0 2 1;link 2 3 1");
        x.due("rounds(0)", 3);
        x.dueFromZero("plan(0, ", 4, 1, 2, OUTSIDE);
        x.due("safe(0, 1, 0): not yet", 0);
        x.due("safe(0, 2, 0): not yet", 0);
        x.due("turn(0, 4)", 4);
        x.due("safe(0, 1, 0): by now", 1);
        x.due("safe(0, 2, 0): not yet", 0);
        x.due("safe(0, 3, 1): not both", 6);
        x.due("turn(0, 1)", 5);
        x.due("safe(0, 2, 0): by now", 1);
        x.due("turn(0, 2)", 7);
    }

    /** Flows of size 3 from 0 to 5, each by one of the nodes 1 to 4 by old, by another one by new; room is for one of them. */
    private static Run lanes(int... oldThenNew) {
        Run x = Run.of(check, "net 6;flow 0 0 5 3;flow 1 0 5 3;flow 2 0 5 3");
        for (int k = 0; k < 3; k++) {
            int by = oldThenNew[k];
            int then = oldThenNew[3 + k];
            x.tell("old " + k + " 0 " + by + ";old " + k + " " + by + " 5;new " + k + " 0 " + then + ";new " + k + " " + then + " 5");
        }
        for (int lane = 1; lane <= 4; lane++) {
            x.does("link(0, " + lane + ", 5)");
            x.does("link(" + lane + ", 5, 5)");
        }
        return x;
    }

    private static void orders() {
        check.sentence("of several the one that has the lower FLOW at the first place at which they differ");
        new Run(check).dueFromZero("order(", 0, 1, 2, OUTSIDE);
        lanes(1, 2, 3, 1, 2, 3).dueFromZero("order(", 0, 1, 2);
        lanes(1, 2, 3, 4, 2, 3).dueFromZero("order(", 0, 1, 2);
        lanes(1, 2, 3, 4, 2, 1).dueFromZero("order(", 0, 1, 2);
        lanes(1, 2, 3, 4, 3, 3).dueFromZero("order(", NONE, NONE, NONE);
        lanes(1, 2, 3, 1, 3, 4).dueFromZero("order(", 0, 2, 1);
        lanes(1, 2, 3, 2, 4, 3).dueFromZero("order(", 1, 0, 2);
        lanes(1, 2, 3, 3, 2, 4).dueFromZero("order(", 1, 2, 0);
        lanes(1, 2, 3, 2, 4, 1).dueFromZero("order(", 1, 0, 2);
        lanes(1, 2, 3, 3, 1, 4).dueFromZero("order(", 2, 0, 1);
        lanes(1, 2, 3, 2, 3, 4).dueFromZero("order(", 2, 1, 0);
        lanes(1, 3, 2, 2, 4, 3).dueFromZero("order(", 1, 2, 0);
        Run both = Run.of(check, "net 4;flow 0 0 3 2;flow 1 0 3 2;flow 2 0 3 5;old 0 0 1;old 1 0 1;old 2 0 2;new 0 0 2;new 1 0 2",
                "new 2 0 3;old 0 1 3;old 1 1 3;old 2 2 3;new 0 1 3;new 1 1 3;new 2 2 3;old 0 2 3;old 1 2 3;new 0 2 3;new 1 2 3");
        both.linkAll(4, 5);
        both.due("waits(0, 2)", 1);
        both.due("waits(1, 2)", 1);
        both.dueFromZero("order(", 2, 0, 1);
    }

    private static void ordersThatAreNone() {
        check.sentence("so that each has a PLAN when those ahead of it have all their MOVERS TURNED");
        Run ring = lanes(1, 2, 3, 2, 3, 1);
        ring.dueFromZero("order(", NONE, NONE, NONE, OUTSIDE);
        ring.due("link(0, 1, 6)", 5);
        ring.due("link(1, 5, 6)", 5);
        ring.dueFromZero("order(", 2, 1, 0);
        ring.due("flow(2, 5): nothing is turned by it", 0);
        Run one = lanes(1, 2, 3, 1, 2, 4);
        one.does("link(4, 5, 2)");
        one.dueFromZero("order(", NONE, NONE, NONE);
        one.does("link(4, 5, 3)");
        one.dueFromZero("order(", 0, 1, 2);
    }

    private static void ordersOfOthersAsTheyAre() {
        check.sentence("the others being as they are");
        Run x = lanes(1, 2, 3, 2, 3, 4);
        x.does("force(2, 17)");
        x.due("load(0, 4): out of the way, and no order in which it is not", 3);
        x.dueFromZero("order(", 1, 0, 2);
        x.does("force(1, 9)");
        x.dueFromZero("order(", 0, 1, 2);
        x.does("reverse(2)");
        x.due("order(0): two go by 3 then", NONE);
    }

    private static void waiting() {
        check.sentence("A FLOW WAITS for another one, if by all its MOVERS its WALK ARRIVES, and 3 does not hold, but would if the"
                + " other one were not there");
        Run x = lanes(1, 2, 3, 2, 4, 3);
        x.due("waits(0, 1)", 1);
        x.due("waits(0, 2): it is elsewhere", 0);
        x.due("waits(1, 0): there is room", 0);
        x.due("waits(0, 0): for itself", 0);
        x.does("link(2, 5, 6)");
        x.due("waits(0, 1): room on one link alone", 1);
        x.does("link(0, 2, 6)");
        x.due("waits(0, 1): just enough", 0);
        x.does("link(0, 2, 3)");
        x.due("waits(0, 1): just enough without it", 1);
        x.does("link(0, 2, 2)");
        x.due("waits(0, 1): too little without it", 0);
        x.does("link(0, 2, 5)");
        x.does("link(2, 5, 0)");
        x.due("waits(0, 1): it does not arrive", 0);
        x.does("link(2, 5, 5)");
        x.does("want(0)");
        x.due("waits(0, 1): whatever is wanted", 1);
        x.does("force(0, 7)");
        x.due("waits(0, 1): all its movers are turned", 1);
        x.does("force(1, 1)");
        x.due("waits(0, 1): the other one has gone", 0);
        Run post = lanes(1, 2, 3, 2, 4, 3);
        post.tell("post 0 1;new 0 3 4;new 0 4 3");
        post.due("sound(0, 31): past its post, a ring, and no room", 1);
        post.due("waits(0, 1): its post and rings are no matter", 1);
        Run third = lanes(1, 2, 1, 4, 1, 3);
        third.due("waits(1, 0): a third one is in its way as well", 0);
        third.due("waits(1, 2): a third one is in its way as well", 0);
        third.does("link(0, 1, 6)");
        third.does("link(1, 5, 6)");
        third.due("waits(1, 0): either may go", 1);
        third.due("waits(1, 2): either may go", 1);
        third.does("force(2, 9)");
        third.due("waits(1, 2): it has gone", 0);
        third.due("waits(1, 0): there is room by now", 0);
    }
}
