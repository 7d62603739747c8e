/** Promises 11 to 23: what is done. */
public final class DoneTest {
    private static final int NONE = -1, UNKNOWN = -2, OUTSIDE = -3, NOT = -4, FULL = -5;
    private static final Check check = new Check();
    /** Flow 0 goes 0 1 2 3 by old and 0 2 1 3 by new rules; a set with node 2 and not node 1 has a ring. */
    private static final String WAYS = "net 4;flow 0 0 3 2;old 0 0 1;old 0 1 2;old 0 2 3;new 0 0 2;new 0 2 1;new 0 1 3";
    private static final String LINKS = "link 0 1 5;link 1 2 5;link 2 3 5;link 0 2 5;link 2 1 5;link 1 3 5";
    /** The same ways for flow 1. */
    private static final String OTHER = "flow 1 0 3 2;old 1 0 1;old 1 1 2;old 1 2 3;new 1 0 2;new 1 2 1;new 1 1 3";

    public static void main(String[] args) {
        link();
        want();
        slots();
        turn();
        turnAmongLetters();
        force();
        advance();
        advanceRefused();
        reverse();
        ready();
        readyWithSmallTables();
        flip();
        finish();
        cancel();
        send();
        tick();
        tickMixed();
        tickStamped();
        tickToTheLastHop();
        check.end();
    }

    private static Run zigzag() {
        return Run.of(check, WAYS, LINKS);
    }

    private static void link() {
        check.promise(11, "link");
        Run x = Run.of(check, "net 4");
        x.due("link(0, 3, 9)", 0);
        x.due("link(0, 3, 1)", 9);
        x.due("room(0, 3)", 1);
        x.due("room(3, 0)", 0);
        x.due("count(1)", 1);
        x.due("link(0, 3, 10)", OUTSIDE);
        x.due("link(0, 3, -1)", OUTSIDE);
        x.due("link(3, 3, 1)", UNKNOWN);
        x.due("link(3, 3, 10)", UNKNOWN);
        x.due("link(4, 0, 1)", UNKNOWN);
        x.due("link(0, 4, 10)", UNKNOWN);
        x.due("link(-1, 0, 1)", UNKNOWN);
        x.due("link(0, -1, 1)", UNKNOWN);
        x.due("link(0, 3, 0)", 1);
        x.due("count(1) then", 0);
    }

    private static void want() {
        check.promise(12, "want");
        Run x = zigzag();
        x.due("want(0)", 15);
        x.due("want(15)", 0);
        x.due("want(9)", 15);
        x.due("want(16)", OUTSIDE);
        x.due("want(-1)", OUTSIDE);
        x.due("count(2)", 9);
        x.does("want(0)");
        x.due("turn(0, 7): nothing is wanted", 7);
    }

    private static void slots() {
        check.promise(13, "slots");
        Run x = new Run(check);
        x.due("slots(1)", 6);
        x.due("slots(6)", 1);
        x.due("slots(3)", 6);
        x.due("slots(0)", OUTSIDE);
        x.due("slots(7)", OUTSIDE);
        x.due("count(3)", 3);
    }

    private static void turn() {
        check.promise(14, "turn");
        Run x = zigzag();
        x.due("turn(0, 7): not safe", NOT);
        x.due("turn(0, 4): not safe", NOT);
        x.due("turn(0, 6): safe by all of it, not by a part", NOT);
        x.due("turn(0, 2)", 2);
        x.due("flow(0, 7)", 1);
        x.due("turn(0, 2) again", OUTSIDE);
        x.due("turn(0, 3)", OUTSIDE);
        x.due("turn(0, 0)", OUTSIDE);
        x.due("turn(0, 8): of the goal", OUTSIDE);
        x.due("turn(0, 257)", OUTSIDE);
        x.due("turn(0, -1)", OUTSIDE);
        x.due("turn(3, 1)", UNKNOWN);
        x.due("turn(-1, 0)", UNKNOWN);
        x.due("turn(0, 5)", 7);
        x.due("flow(0, 7) then", 2);
        Run ready = zigzag();
        ready.does("ready(0)");
        ready.due("turn(0, 2) when ready", NOT);
        ready.due("turn(0, 8) when ready", OUTSIDE);
        ready.does("flip(0)");
        ready.due("turn(0, 2) when flipped", NOT);
        Run cut = zigzag();
        cut.does("link(1, 2, 0)");
        cut.due("turn(0, 1): it is not sound by turned", NOT);
    }

    private static void turnAmongLetters() {
        Run x = Run.of(check, WAYS, LINKS, OTHER);
        x.does("link(0, 1, 9)");
        x.does("link(1, 2, 9)");
        x.does("link(2, 3, 9)");
        x.does("send(0)");
        x.does("send(1)");
        x.due("turn(0, 2): no letter is stale by then", 2);
        x.due("turn(0, 1): a letter is stale", NOT);
        x.due("turn(1, 2): only another flow's is", 2);
        x.does("tick()");
        x.due("turn(0, 1): it still is", NOT);
        x.due("tick()", 2);
        x.due("turn(0, 1): it is there", 3);
    }

    private static void force() {
        check.promise(15, "force");
        Run x = zigzag();
        x.does("send(0)");
        x.due("force(0, 4), not safe", 4);
        x.due("force(0, 1), a letter is stale", 5);
        x.due("flow(0, 5)", 5);
        x.due("flow(0, 7)", 2);
        x.due("letter(0, 4)", 2);
        x.due("force(0, 1) again", OUTSIDE);
        x.due("force(0, 0)", OUTSIDE);
        x.due("force(0, 8)", OUTSIDE);
        x.due("force(0, " + Integer.MIN_VALUE + ")", OUTSIDE);
        x.due("force(3, 2)", UNKNOWN);
        x.due("force(-1, 0)", UNKNOWN);
        Run ready = zigzag();
        ready.does("ready(0)");
        ready.due("force(0, 2) when ready", NOT);
        ready.due("force(0, 8) when ready", OUTSIDE);
    }

    private static void advance() {
        check.promise(16, "advance");
        Run x = zigzag();
        x.due("advance(0)", 3);
        x.due("flow(0, 5)", 3);
        x.due("flow(0, 7)", 1);
        x.due("advance(0) again", 4);
        x.due("flow(0, 5) then", 7);
        x.due("advance(0): all are turned", NOT);
        x.due("reverse(0)", 3);
        x.due("advance(0) once more", 4);
        x.due("advance(1): no movers", NOT);
        x.due("advance(3)", UNKNOWN);
        x.due("advance(-1)", UNKNOWN);
    }

    private static void advanceRefused() {
        Run none = zigzag();
        none.does("link(1, 3, 1)");
        none.due("advance(0): there is no plan", NONE);
        none.does("ready(0)");
        none.due("advance(0): ready, and no plan", NOT);
        Run stale = zigzag();
        stale.does("send(0)");
        stale.due("advance(0) with a letter", 3);
        stale.due("letter(0, 4)", 1);
        stale.due("advance(0): it is stale", NOT);
        stale.does("tick()");
        stale.does("tick()");
        stale.due("advance(0): it is gone", 4);
    }

    private static void reverse() {
        check.promise(17, "reverse");
        Run x = zigzag();
        x.due("reverse(0): there is none", NOT);
        x.does("send(0)");
        x.does("turn(0, 2)");
        x.does("force(0, 4)");
        x.does("force(0, 1)");
        x.due("reverse(0)", 6);
        x.due("flow(0, 7)", 2);
        x.due("letter(0, 4): a taking back is a round", 4);
        x.due("force(0, 1)", 7);
        x.due("reverse(0) again", 6);
        x.due("reverse(0) of the one ahead", 2);
        x.due("reverse(0) of the first", 0);
        x.due("reverse(0): none is left", NOT);
        x.due("reverse(1)", NOT);
        x.due("reverse(3)", UNKNOWN);
        x.due("reverse(-1)", UNKNOWN);
        x.does("tick()");
        x.does("tick()");
        x.does("tick()");
        x.due("advance(0)", 3);
        x.due("reverse(0) of an advance", 0);
        x.does("ready(0)");
        x.due("reverse(0) when ready", NOT);
    }

    private static void ready() {
        check.promise(18, "ready");
        Run x = zigzag();
        x.due("ready(0)", 2);
        x.due("flow(0, 6)", 1);
        x.due("table(3)", 0);
        x.due("ready(0) again", NOT);
        x.due("ready(1): without rules", 2);
        x.does("flip(0)");
        x.due("ready(0) when flipped", NOT);
        x.due("ready(3)", UNKNOWN);
        x.due("ready(-1)", UNKNOWN);
        Run some = zigzag();
        some.does("turn(0, 1)");
        some.due("ready(0): some are turned", NOT);
        some.does("reverse(0)");
        some.due("ready(0): none are", 2);
    }

    private static void readyWithSmallTables() {
        Run x = Run.of(check, WAYS, OTHER);
        x.does("slots(3)");
        x.due("ready(0) in small tables", 3);
        x.due("ready(1): a table would be 4", FULL);
        x.due("flow(1, 6)", 0);
        x.does("slots(4)");
        x.due("ready(1) in greater ones", 4);
        x.does("slots(1)");
        x.due("ready(2): tables are more than slots already", FULL);
        x.due("ready(1): not, and full", NOT);
        Run three = Run.of(check, WAYS, OTHER, "flow 2 0 3 1;old 2 0 1;new 2 0 2");
        three.does("ready(0)");
        three.does("ready(1)");
        three.due("ready(2): the most that there can be", 6);
    }

    private static void flip() {
        check.promise(19, "flip");
        Run x = zigzag();
        x.due("flip(0): it is plain", NOT);
        x.does("send(0)");
        x.does("send(1)");
        x.does("send(0)");
        x.does("ready(0)");
        x.due("flip(0)", 2);
        x.due("flow(0, 6)", 2);
        x.due("letter(0, 3): sent ahead", 0);
        x.due("flip(0): it is flipped", NOT);
        x.does("send(0)");
        x.due("letter(3, 3): sent behind", 1);
        x.does("ready(2)");
        x.due("flip(2)", 0);
        x.due("flip(3)", UNKNOWN);
        x.due("flip(-1)", UNKNOWN);
    }

    private static void finish() {
        check.promise(20, "finish");
        Run x = zigzag();
        x.due("finish(0): it is plain", NOT);
        x.does("send(0)");
        x.does("send(1)");
        x.does("ready(0)");
        x.due("finish(0): it is ready", NOT);
        x.does("flip(0)");
        x.does("send(0)");
        x.due("finish(0): an old letter is under way", NOT);
        x.does("tick()");
        x.does("tick()");
        x.does("send(0)");
        x.due("finish(0): it still is", NOT);
        x.due("tick()", 2);
        x.due("finish(0)", 7);
        x.due("flow(0, 5)", 7);
        x.due("flow(0, 6)", 0);
        x.due("flow(0, 7)", 0);
        x.due("letter(0, 4): no round", 0);
        x.due("reverse(0)", NOT);
        x.due("ready(0): some are turned", NOT);
        x.due("finish(0) again", NOT);
        x.does("ready(2)");
        x.does("flip(2)");
        x.due("finish(2): no movers", 0);
        x.due("finish(3)", UNKNOWN);
        x.due("finish(-1)", UNKNOWN);
    }

    private static void cancel() {
        check.promise(21, "cancel");
        Run x = zigzag();
        x.due("cancel(0): it is plain", NOT);
        x.does("ready(0)");
        x.does("send(0)");
        x.due("cancel(0) when ready", 1);
        x.due("flow(0, 6)", 0);
        x.due("flow(0, 5)", 0);
        x.does("ready(0)");
        x.does("flip(0)");
        x.due("cancel(0) when flipped", 2);
        x.does("ready(0)");
        x.does("flip(0)");
        x.does("send(0)");
        x.due("cancel(0): a stamped letter is under way", NOT);
        x.does("ready(1)");
        x.due("cancel(1): it is another flow's", 1);
        x.does("tick()");
        x.does("tick()");
        x.does("tick()");
        x.due("cancel(0): it is there", 2);
        x.due("cancel(3)", UNKNOWN);
        x.due("cancel(-1)", UNKNOWN);
    }

    private static void send() {
        check.promise(22, "send");
        Run x = Run.of(check, "net 4;flow 1 2 3 1");
        x.due("send(3)", UNKNOWN);
        x.due("send(-1)", UNKNOWN);
        for (int i = 1; i <= 12; i++) {
            x.due("send(1) as letter " + i, i);
        }
        int[] fresh = {1, 2, 0, 0, 0, 0};
        for (int what = 0; what < fresh.length; what++) {
            x.due("letter(11, " + what + ")", fresh[what]);
        }
        x.due("send(0): there are 12", FULL);
        x.due("send(3): there are 12", UNKNOWN);
        x.due("count(4)", 12);
        x.does("tick()");
        x.due("send(0) when all are lost", 1);
        x.due("letter(0, 1)", 0);
    }

    private static void tick() {
        check.promise(23, "tick");
        Run x = zigzag();
        x.due("tick() of none", 0);
        x.does("send(0)");
        x.does("send(1)");
        x.due("tick(): flow 1 has no rules", 0);
        x.due("count(4)", 1);
        x.due("count(8)", 1);
        x.due("letter(0, 1)", 1);
        x.due("letter(0, 2)", 1);
        x.does("send(0)");
        x.due("tick() again", 0);
        x.due("letter(0, 1): the first one", 2);
        x.due("letter(1, 1): the other one", 1);
        x.does("send(0)");
        x.does("link(1, 2, 0)");
        x.due("tick(): one is there, one is lost", 1);
        x.due("count(4) then", 1);
        x.due("count(5)", 1);
        x.due("count(8) then", 2);
        x.due("letter(0, 1): the third one", 1);
        x.due("letter(0, 2): of the third one", 1);
    }

    private static void tickMixed() {
        Run x = Run.of(check, WAYS, LINKS, "post 0 2");
        x.does("send(0)");
        x.does("tick()");
        x.due("letter(0, 5): by old alone", 0);
        x.does("force(0, 2)");
        x.does("send(0)");
        x.due("tick(): from 1 by new to 3", 1);
        x.due("count(6): not by its post", 1);
        x.due("count(7): mixed", 1);
        x.does("reverse(0)");
        x.does("tick()");
        x.does("tick()");
        x.due("count(5)", 2);
        x.due("count(6): the other one was", 1);
        x.due("count(7): the other one went by old", 1);
        x.does("force(0, 1)");
        x.does("send(0)");
        x.does("tick()");
        x.due("letter(0, 1): to 2 by new", 2);
        x.due("letter(0, 5)", 0);
        x.does("force(0, 4)");
        x.does("tick()");
        x.due("letter(0, 1): to 1 by new", 1);
        x.does("tick()");
        x.due("letter(0, 1): to 2 by old", 2);
        x.due("letter(0, 5): mixed", 1);
        x.due("letter(0, 4)", 1);
        x.does("reverse(0)");
        x.due("tick(): there", 1);
        x.due("count(7) then", 2);
        x.due("count(6) then: by its post", 1);
    }

    private static void tickStamped() {
        Run x = zigzag();
        x.does("send(0)");
        x.does("ready(0)");
        x.does("flip(0)");
        x.does("send(0)");
        x.does("tick()");
        x.due("letter(0, 1): by old", 1);
        x.due("letter(1, 1): by new", 2);
        x.does("tick()");
        x.due("letter(0, 1): by old on", 2);
        x.due("letter(1, 1): by new on", 1);
        x.due("tick()", 2);
        x.due("count(5)", 2);
        x.due("count(7): none is mixed", 0);
        Run lost = Run.of(check, "net 3;old 0 0 2;old 0 2 1;new 0 0 2;link 0 2 1;link 2 1 1");
        lost.does("ready(0)");
        lost.does("flip(0)");
        lost.does("send(0)");
        lost.does("tick()");
        lost.due("letter(0, 1): old and new are alike", 2);
        lost.due("tick(): no new rule there", 0);
        lost.due("count(8)", 1);
    }

    private static void tickToTheLastHop() {
        String ring = "net 3;flow 0 0 2 1;link 0 1 1;link 1 0 1;link 1 2 1;old 0 0 1;old 0 1 0;new 0 0 1;new 0 1 2";
        Run x = Run.of(check, ring);
        x.does("send(0)");
        for (int i = 1; i <= 19; i++) {
            x.due("tick() " + i, 0);
            x.due("letter(0, 2) behind it", i);
        }
        x.due("tick() 20", 0);
        x.due("count(4)", 0);
        x.due("count(8): lost by its 20th hop", 1);
        x.does("send(0)");
        for (int i = 1; i <= 19; i++) {
            x.does("tick()");
        }
        x.does("force(0, 2)");
        x.due("tick() 20: the goal", 1);
        x.due("count(5)", 1);
        x.due("count(7): from one node by old and by new", 1);
        x.due("count(8) then", 1);
    }
}
