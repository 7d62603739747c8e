/** The sentences about phases, tables, slots and letters that name a boundary: a test for each, named by its words. */
public final class EdgeTrafficTest {
    private static final int UNKNOWN = -2, OUTSIDE = -3, NOT = -4, FULL = -5;
    private static final Check check = new Check();
    /** By old 0 1 3, by new 0 2 3. */
    private static final String WAYS = "net 4;flow 0 0 3 1;old 0 0 1;old 0 1 3;new 0 0 2;new 0 2 3";
    private static final String LINKS = "link 0 1 9;link 1 3 9;link 0 2 9;link 2 3 9";
    /** Round and round between 0 and 1 by old, from 1 to the goal by new. */
    private static final String RING = "net 3;flow 0 0 2 1;link 0 1 1;link 1 0 1;link 1 2 1;old 0 0 1;old 0 1 0;new 0 0 1;new 0 1 2";

    public static void main(String[] args) {
        phases();
        tablesByTurned();
        tablesOfReadyOrFlipped();
        slots();
        slotsByReadyAlone();
        lettersUnderWay();
        lettersInTheirOrder();
        lettersAtTheirSource();
        lettersStamped();
        lettersStale();
        lettersStaleByEachRound();
        lettersNotStale();
        hopsByStamp();
        hopsByTurnedAsItIsNow();
        hopsWithoutRule();
        hopsWithoutLink();
        hopsToTheGoal();
        hopsToTheTwentieth();
        stampedHopsToTheTwentieth();
        mixed();
        mixedByMoversAlone();
        goneLetters();
        check.end();
    }

    private static void phases() {
        check.sentence("PHASE of a FLOW: 0 plain (at first), 1 READY, 2 FLIPPED");
        Run x = new Run(check);
        for (int k = 0; k <= 2; k++) {
            x.due("flow(" + k + ", 6) at first", 0);
        }
        x.due("ready(1)", 0);
        x.due("flow(1, 6)", 1);
        x.due("flip(1)", 0);
        x.due("flow(1, 6)", 2);
        x.due("flow(0, 6): of another flow", 0);
        x.due("finish(1)", 0);
        x.due("flow(1, 6): finished", 0);
        x.due("ready(1) once more", 0);
        x.due("cancel(1)", 1);
        x.due("flow(1, 6): cancelled", 0);
    }

    private static void tablesByTurned() {
        check.sentence("of each FLOW one, if by TURNED it has a RULE there");
        Run x = Run.of(check, "net 3;old 0 0 1;old 1 0 1;old 2 0 1;new 2 2 0");
        x.due("table(0): of each flow", 3);
        x.due("table(1): the goal of each", 0);
        x.due("table(2): none by turned", 0);
        x.due("count(10)", 3);
        x.due("force(2, 1)", 1);
        x.due("table(0): turned to none", 2);
        x.due("force(2, 4)", 5);
        x.due("table(2): turned to one", 1);
        x.due("force(1, 1)", 1);
        x.due("force(0, 1)", 1);
        x.due("table(0): all are turned to none", 0);
        x.due("count(10): there is one yet", 1);
        Run none = new Run(check);
        none.due("table(0) at first", 0);
        none.due("count(10) at first", 0);
    }

    private static void tablesOfReadyOrFlipped() {
        check.sentence("and one more, if it is READY or FLIPPED and has a NEW rule there");
        Run x = Run.of(check, "net 4;old 0 0 1;new 0 0 1;old 0 2 1;new 0 3 1");
        x.due("table(0): alike, and plain", 1);
        x.due("ready(0)", 2);
        x.due("table(0): ready, alike", 2);
        x.due("table(2): no new rule there", 1);
        x.due("table(3): new alone", 1);
        x.due("table(1)", 0);
        x.due("flip(0)", 0);
        x.due("table(0): flipped", 2);
        x.due("table(3): flipped", 1);
        x.due("finish(0)", 12);
        x.due("table(0): plain", 1);
        x.due("table(2): turned to none", 0);
        x.due("table(3): turned to one", 1);
        Run full = Run.of(check, "old 0 0 1;old 1 0 1;old 2 0 1;new 0 0 1;new 1 0 1;new 2 0 1");
        full.due("ready(0)", 4);
        full.due("ready(1)", 5);
        full.due("ready(2)", 6);
        full.due("table(0): the greatest that there can be", 6);
        full.due("count(10)", 6);
        full.due("cancel(1)", 1);
        full.due("table(0): one less", 5);
    }

    private static void slots() {
        check.sentence("SLOTS (1 to 6; 6 at first): the most that a TABLE may be by ready()");
        Run x = Run.of(check, "old 0 0 1;old 1 0 1;old 2 0 1;new 0 0 1;new 1 0 1;new 2 0 1");
        x.due("count(3) at first", 6);
        x.due("slots(7)", OUTSIDE);
        x.due("slots(0)", OUTSIDE);
        x.due("slots(3)", 6);
        x.due("ready(0): 4 of 3", FULL);
        x.due("flow(0, 6)", 0);
        x.due("slots(4)", 3);
        x.due("ready(0): 4 of 4", 4);
        x.due("ready(1): 5 of 4", FULL);
        x.due("slots(5)", 4);
        x.due("ready(1): 5 of 5", 5);
        x.due("ready(2): 6 of 5", FULL);
        x.due("slots(6)", 5);
        x.due("ready(2): 6 of 6", 6);
        Run least = Run.of(check, "new 0 0 1");
        least.due("slots(1)", 6);
        least.due("ready(0): 1 of 1", 1);
        least.due("cancel(0)", 1);
        least.tell("old 0 0 1");
        least.due("ready(0): 2 of 1", FULL);
        least.due("ready(1): 1 of 1, without rules of its own", 1);
        Run none = new Run(check);
        none.due("slots(1)", 6);
        none.due("ready(0): 0 of 1", 0);
    }

    private static void slotsByReadyAlone() {
        check.sentence("the most that a TABLE may be by ready()");
        Run x = new Run(check);
        x.due("slots(1)", 6);
        x.tell("net 3;old 0 0 1;new 0 0 2;old 1 0 1;new 1 2 0;link 0 1 1");
        x.due("table(0): more than slots by a text", 2);
        x.due("force(0, 1)", 1);
        x.due("table(0): more than slots by turned", 2);
        x.due("reverse(0)", 0);
        x.due("ready(2): another's tables are more", FULL);
        x.due("slots(2)", 1);
        x.due("ready(1)", 2);
        x.due("slots(1)", 2);
        x.due("flip(1): slots are no matter", 0);
        x.due("finish(1)", 5);
    }

    private static void lettersUnderWay() {
        check.sentence("LETTERS under way (12 at most; none at first)");
        Run x = Run.of(check, WAYS, LINKS);
        x.due("count(4) at first", 0);
        x.due("letter(0, 0) at first", UNKNOWN);
        x.due("tick() of none", 0);
        for (int i = 1; i <= 12; i++) {
            x.due("send(" + (i % 2) + ")", i);
        }
        x.due("send(0): the 13th", FULL);
        x.due("send(2): the 13th", FULL);
        x.due("send(3): no such flow", UNKNOWN);
        x.due("count(4)", 12);
        x.due("letter(11, 0)", 0);
        x.due("letter(12, 0)", UNKNOWN);
        x.due("tick(): six have no rule", 0);
        x.due("count(4)", 6);
        x.due("letter(6, 0)", UNKNOWN);
        for (int i = 7; i <= 12; i++) {
            x.due("send(0)", i);
        }
        x.due("send(0): full again", FULL);
        for (int i = 0; i < 12; i++) {
            x.due("letter(" + i + ", 2)", i < 6 ? 1 : 0);
        }
        x.due("tick(): six are there", 6);
        x.due("send(0)", 7);
    }

    private static void lettersInTheirOrder() {
        check.sentence("in the order in which they were sent");
        Run x = Run.of(check, "net 4;old 0 0 1;old 1 0 2;old 1 2 1;old 2 0 3;link 0 1 9;link 0 2 9;link 2 1 9;link 0 3 9");
        int[] sent = {1, 0, 2, 1, 2, 0, 1};
        for (int i = 0; i < sent.length; i++) {
            x.due("send(" + sent[i] + ")", i + 1);
        }
        for (int i = 0; i < sent.length; i++) {
            x.due("letter(" + i + ", 0)", sent[i]);
        }
        x.due("tick(): those of flow 0", 2);
        int[] left = {1, 2, 1, 2, 1};
        for (int i = 0; i < left.length; i++) {
            x.due("letter(" + i + ", 0)", left[i]);
            x.due("letter(" + i + ", 1)", left[i] == 1 ? 2 : 3);
            x.due("letter(" + i + ", 2)", 1);
        }
        x.due("letter(5, 0)", UNKNOWN);
        x.due("send(0)", 6);
        x.due("letter(5, 0): behind the others", 0);
        x.due("letter(5, 2)", 0);
        x.due("tick(): those of flow 1, and the last one", 4);
        x.due("count(8): those of flow 2", 2);
        x.due("count(4)", 0);
    }

    private static void lettersAtTheirSource() {
        check.sentence("at a NODE (its SOURCE at first)");
        Run x = Run.of(check, "net 8;flow 0 7 0 1;flow 1 3 7 1");
        for (int k = 0; k <= 2; k++) {
            x.due("send(" + k + ")", k + 1);
        }
        x.dueFromZero("letter(0, ", 0, 7, 0, 0, 0, 0);
        x.dueFromZero("letter(1, ", 1, 3, 0, 0, 0, 0);
        x.dueFromZero("letter(2, ", 2, 0, 0, 0, 0, 0);
    }

    private static void lettersStamped() {
        check.sentence("STAMPED, if the FLOW was FLIPPED when it was sent");
        Run x = new Run(check);
        x.does("send(0)");
        x.does("ready(0)");
        x.does("send(0)");
        x.does("flip(0)");
        x.does("send(0)");
        x.does("send(1)");
        int[] stamps = {0, 0, 1, 0};
        for (int i = 0; i < stamps.length; i++) {
            x.due("letter(" + i + ", 3)", stamps[i]);
        }
        x.does("tick()");
        x.does("send(0)");
        x.due("finish(0)", 0);
        x.does("send(0)");
        x.due("letter(0, 3): it stays so", 1);
        x.due("letter(1, 3): sent when it was plain again", 0);
    }

    private static void lettersStale() {
        check.sentence("STALE: so many ROUNDS (turn(), force(), advance(), reverse()) its FLOW has done since it was sent:"
                + " 1 or more");
        Run x = Run.of(check, WAYS, LINKS);
        x.does("send(0)");
        x.due("letter(0, 4)", 0);
        x.due("turn(0, 4): no letter is stale yet", 4);
        x.does("send(0)");
        x.due("letter(0, 4)", 1);
        x.due("letter(1, 4): sent behind it", 0);
        x.due("turn(0, 1): one is stale", NOT);
        x.due("advance(0): one is stale", NOT);
        x.due("letter(0, 4): refused ones are none", 1);
        x.due("force(0, 1): stale or not", 5);
        x.due("reverse(0): stale or not", 4);
        x.due("letter(0, 4)", 3);
        x.due("letter(1, 4)", 2);
        x.does("tick()");
        x.due("letter(0, 4): hops are none", 3);
        x.due("tick()", 2);
        x.does("send(0)");
        x.due("turn(0, 1): none is stale any more", 5);
    }

    private static void lettersStaleByEachRound() {
        check.sentence("so many ROUNDS (turn(), force(), advance(), reverse())");
        String[] rounds = {"turn(0, 4)", "force(0, 1)", "advance(0)", "reverse(0)"};
        for (String round : rounds) {
            Run x = Run.of(check, WAYS, LINKS);
            x.does(round.startsWith("reverse") ? "force(0, 2)" : "tick()");
            x.does("send(0)");
            x.does("send(1)");
            x.does(round);
            x.due("letter(0, 4) behind " + round, 1);
            x.due("letter(1, 4) behind " + round + ": of another flow", 0);
            x.does("want(0)");
            x.due("safe(0, 2, 0) behind " + round, 1);
            x.due("turn(0, 2) behind " + round + ": safe, but one is stale", NOT);
            x.due("advance(0) behind " + round + ": one is stale", NOT);
            x.does("tick()");
            x.does("tick()");
            x.due("turn(0, 2) when it is gone", 2 + (round.equals("force(0, 1)") ? 1 : round.equals("reverse(0)") ? 0 : 4));
        }
        Run many = Run.of(check, WAYS, LINKS);
        many.does("send(0)");
        for (int i = 1; i <= 100; i++) {
            many.does(i % 2 == 1 ? "force(0, 7)" : "reverse(0)");
        }
        many.due("letter(0, 4): as many as there were", 100);
    }

    private static void lettersNotStale() {
        check.sentence("its FLOW has done since it was sent");
        Run x = Run.of(check, WAYS, LINKS);
        x.does("send(0)");
        x.does("ready(0)");
        x.does("cancel(0)");
        x.does("ready(0)");
        x.does("flip(0)");
        x.due("letter(0, 4): phases are none", 0);
        x.does("tick()");
        x.does("tick()");
        x.does("send(0)");
        x.due("finish(0)", 7);
        x.due("letter(0, 4): nor is that it is finished", 0);
        x.due("letter(0, 3)", 1);
        Run other = Run.of(check, "net 3;new 1 0 2;new 0 0 2;link 0 2 1");
        other.does("want(0)");
        other.does("send(0)");
        other.does("send(1)");
        other.due("turn(1, 1)", 1);
        other.due("letter(0, 4): of another flow", 0);
        other.due("letter(1, 4)", 1);
        other.due("turn(0, 1): another flow's letter is stale", 1);
    }

    private static void hopsByStamp() {
        check.sentence("its RULE is NEW, if it is STAMPED");
        Run x = Run.of(check, WAYS, LINKS);
        x.does("ready(0)");
        x.does("send(0)");
        x.does("flip(0)");
        x.does("send(0)");
        x.does("tick()");
        x.due("letter(0, 1): old, ready when it was sent", 1);
        x.due("letter(1, 1): new", 2);
        x.due("tick()", 2);
        x.due("count(7)", 0);
        Run lost = Run.of(check, "old 0 0 1;link 0 1 1");
        lost.does("ready(0)");
        lost.does("flip(0)");
        lost.does("send(0)");
        lost.due("tick(): there is no new rule, an old one is no matter", 0);
        lost.due("count(8)", 1);
    }

    private static void hopsByTurnedAsItIsNow() {
        check.sentence("else that by TURNED as it is now");
        Run x = Run.of(check, WAYS, LINKS);
        x.does("send(0)");
        x.does("force(0, 1)");
        x.does("tick()");
        x.due("letter(0, 1): by new, which came behind it", 2);
        x.does("reverse(0)");
        x.does("send(0)");
        x.does("force(0, 4)");
        x.due("tick(): new from 2 to 3", 1);
        x.due("letter(0, 1): by old again", 1);
        x.does("force(0, 2)");
        x.due("tick(): there is none from 1 any more", 0);
        x.due("count(8)", 1);
    }

    private static void hopsWithoutRule() {
        check.sentence("No RULE, or no LINK to the next NODE: it is LOST");
        Run x = Run.of(check, "net 3;link 0 1 9;link 0 2 9;old 1 0 2");
        x.does("send(0)");
        x.does("send(1)");
        x.due("tick(): no rule at its source", 0);
        x.due("count(8)", 1);
        x.due("letter(0, 0)", 1);
        x.due("tick(): no rule behind a hop", 0);
        x.due("count(8)", 2);
        x.due("count(4)", 0);
        x.due("count(5)", 0);
    }

    private static void hopsWithoutLink() {
        check.sentence("No RULE, or no LINK to the next NODE: it is LOST");
        Run x = Run.of(check, "net 3;old 0 0 2;old 0 2 1;link 2 0 9;link 1 2 9");
        x.does("send(0)");
        x.due("tick(): a link back alone", 0);
        x.due("count(8)", 1);
        x.does("link(0, 2, 1)");
        for (int i = 1; i <= 12; i++) {
            x.due("send(0)", i);
        }
        x.due("tick(): room is no matter to letters", 0);
        x.due("count(4)", 12);
        x.due("tick(): no link to its goal", 0);
        x.due("count(8): all of them", 13);
        x.due("count(5)", 0);
    }

    private static void hopsToTheGoal() {
        check.sentence("Else it goes there; at its GOAL it is THERE");
        Run x = Run.of(check, "net 8;flow 0 7 0 1;old 0 7 1;old 0 1 0;link 7 1 1;link 1 0 1");
        x.does("send(0)");
        x.due("tick()", 0);
        x.due("letter(0, 1)", 1);
        x.due("letter(0, 2)", 1);
        x.due("tick()", 1);
        x.due("count(5)", 1);
        x.due("count(8)", 0);
        Run direct = Run.of(check, "flow 0 0 1 9;old 0 0 1;link 0 1 1");
        for (int i = 1; i <= 12; i++) {
            direct.does("send(0)");
        }
        direct.due("tick(): all by one, whatever room there is", 12);
        direct.due("count(5)", 12);
        direct.due("tick()", 0);
        direct.due("count(5): they stay", 12);
    }

    private static void hopsToTheTwentieth() {
        check.sentence("else, if that was its 20th HOP, it is LOST");
        Run x = Run.of(check, RING);
        x.does("send(0)");
        for (int i = 1; i <= 19; i++) {
            x.due("tick(), so many:" + i, 0);
            x.due("letter(0, 2)", i);
        }
        x.due("letter(0, 1)", 1);
        x.does("send(0)");
        x.due("tick(), the 20th", 0);
        x.due("count(4): the later one alone", 1);
        x.due("count(8)", 1);
        x.due("letter(0, 2)", 1);
        for (int i = 2; i <= 19; i++) {
            x.does("tick()");
        }
        x.due("letter(0, 2)", 19);
        x.does("force(0, 2)");
        x.due("tick(), the 20th: it comes to its goal", 1);
        x.due("count(5)", 1);
        x.due("count(8)", 1);
    }

    private static void stampedHopsToTheTwentieth() {
        check.sentence("else, if that was its 20th HOP, it is LOST");
        Run x = Run.of(check, "net 3;flow 0 0 2 1;link 0 1 1;link 1 0 1;new 0 0 1;new 0 1 0;old 0 0 2");
        x.does("ready(0)");
        x.does("flip(0)");
        x.does("send(0)");
        for (int i = 1; i <= 19; i++) {
            x.does("tick()");
        }
        x.dueFromZero("letter(0, ", 0, 1, 19, 1, 0, 0);
        x.due("cancel(0): it is under way", NOT);
        x.due("tick(), the 20th", 0);
        x.due("count(8)", 1);
        x.due("cancel(0): it is lost", 2);
    }

    private static void mixed() {
        check.sentence("MIXED: it went on from a MOVER by OLD and from a MOVER by NEW");
        Run x = Run.of(check, RING);
        x.does("force(0, 2)");
        x.does("send(0)");
        x.does("tick()");
        x.due("letter(0, 5)", 0);
        x.due("tick(): by new alone", 1);
        x.due("count(7)", 0);
        x.does("reverse(0)");
        x.does("send(0)");
        x.does("tick()");
        x.does("tick()");
        x.due("letter(0, 5): by old alone", 0);
        x.does("force(0, 2)");
        x.does("tick()");
        x.due("letter(0, 5): that node has not gone on by new yet", 0);
        x.due("tick(): from one node by old and by new", 1);
        x.due("count(7)", 1);
        Run back = Run.of(check, "net 4;flow 0 0 3 1;old 0 0 1;new 0 0 2;old 0 1 2;new 0 1 3;old 0 2 3;link 0 2 1;link 2 3 1");
        back.does("force(0, 1)");
        back.does("send(0)");
        back.does("tick()");
        back.due("letter(0, 5): new first", 0);
        back.due("tick(): old behind it", 1);
        back.due("count(7)", 1);
        Run on = Run.of(check, RING);
        on.does("send(0)");
        on.does("tick()");
        on.does("tick()");
        on.does("link(1, 2, 0)");
        on.does("force(0, 2)");
        on.does("tick()");
        on.due("letter(0, 5): not yet", 0);
        on.due("tick(): no link, it does not go on", 0);
        on.due("count(7): it is lost", 0);
        Run three = Run.of(check, "net 4;flow 0 0 3 1;old 0 0 1;new 0 0 2;old 0 1 2;new 0 1 3;link 0 1 1;link 1 2 1;link 0 2 1;link 2 0 1",
                "new 0 2 0");
        three.does("send(0)");
        three.does("send(0)");
        three.does("tick()");
        three.does("tick()");
        three.due("letter(0, 5): by old twice", 0);
        three.does("force(0, 4)");
        three.does("send(0)");
        three.does("tick()");
        three.due("letter(0, 5): then by new", 1);
        three.due("letter(1, 5)", 1);
        three.due("letter(2, 5): by old once", 0);
        three.does("reverse(0)");
        three.does("tick()");
        three.due("letter(0, 5): it stays so", 1);
        three.due("letter(2, 5): by old twice", 0);
    }

    private static void mixedByMoversAlone() {
        check.sentence("it went on from a MOVER by OLD and from a MOVER by NEW");
        Run x = Run.of(check, "net 4;flow 0 0 3 1;old 0 0 1;new 0 0 1;old 0 1 2;new 0 1 3;old 0 2 3;new 0 2 3");
        x.linkAll(4, 1);
        x.does("force(0, 2)");
        x.does("send(0)");
        x.does("tick()");
        x.due("tick(): from no mover, and from a mover by new", 1);
        x.due("count(7)", 0);
        x.does("reverse(0)");
        x.does("send(0)");
        x.does("tick()");
        x.does("tick()");
        x.due("tick(): from a mover by old, and from no movers", 1);
        x.due("count(7)", 0);
        Run stamped = Run.of(check, WAYS, LINKS);
        stamped.does("ready(0)");
        stamped.does("flip(0)");
        stamped.does("send(0)");
        stamped.does("tick()");
        stamped.due("letter(0, 5): by new alone", 0);
        stamped.due("tick()", 1);
        stamped.due("count(7)", 0);
    }

    private static void goneLetters() {
        check.sentence("(What is THERE, LOST is not under way any more.)");
        Run x = Run.of(check, WAYS, LINKS);
        x.does("send(0)");
        x.does("send(1)");
        x.does("turn(0, 4)");
        x.due("count(4)", 2);
        x.due("turn(0, 1): one is stale", NOT);
        x.due("tick(): one is lost", 0);
        x.due("count(4)", 1);
        x.due("letter(1, 0)", UNKNOWN);
        x.due("tick(): one is there", 1);
        x.due("count(4)", 0);
        x.due("letter(0, 0)", UNKNOWN);
        x.due("turn(0, 1): none is stale", 5);
        Run flipped = Run.of(check, WAYS, LINKS);
        flipped.does("send(0)");
        flipped.does("send(0)");
        flipped.does("ready(0)");
        flipped.does("tick()");
        flipped.does("link(1, 3, 0)");
        flipped.due("flip(0): both", 2);
        flipped.due("finish(0): both are not stamped", NOT);
        flipped.due("tick(): both are lost", 0);
        flipped.due("finish(0)", 7);
        flipped.due("count(8)", 2);
    }
}
