/** Promises 11 to 23: what is done. */
public final class DoneTest {
    private static final int NONE = -1, UNKNOWN = -2, OUTSIDE = -3, NOT = -4, FULL = -5;
    private static final Check check = new Check();
    /** Flow 0 goes 0 1 2 3 by old and 0 2 1 3 by new rules; a set with node 2 and not node 1 has a ring. */
    private static final String WAYS = "net 4;flow 0 0 3 2;old 0 0 1;old 0 1 2;old 0 2 3;new 0 0 2;new 0 2 1;new 0 1 3";
    private static final String LINKS = "link 0 1 5;link 1 2 5;link 2 3 5;link 0 2 5;link 2 1 5;link 1 3 5";
    /** The same ways for flow 1. */
    private static final String OTHER = "flow 1 0 3 2;old 1 0 1;old 1 1 2;old 1 2 3;new 1 0 2;new 1 2 1;new 1 1 3";

    public static void main(String[] args) {
        link();
        want();
        slots();
        turn();
        turnAmongLetters();
        force();
        advance();
        advanceRefused();
        reverse();
        ready();
        readyWithSmallTables();
        flip();
        finish();
        cancel();
        send();
        tick();
        tickMixed();
        tickStamped();
        tickToTheLastHop();
        check.end();
    }

    private static MixedRules zigzag() {
        return Check.of(WAYS, LINKS);
    }

    private static void link() {
        check.promise(11, "link");
        MixedRules x = Check.of("net 4");
        check.due("link(0, 3, 9)", x.link(0, 3, 9), 0);
        check.due("link(0, 3, 1)", x.link(0, 3, 1), 9);
        check.due("room(0, 3)", x.room(0, 3), 1);
        check.due("room(3, 0)", x.room(3, 0), 0);
        check.due("count(1)", x.count(1), 1);
        check.refused("link(0, 3, 10)", x, () -> x.link(0, 3, 10), OUTSIDE);
        check.refused("link(0, 3, -1)", x, () -> x.link(0, 3, -1), OUTSIDE);
        check.refused("link(3, 3, 1)", x, () -> x.link(3, 3, 1), UNKNOWN);
        check.refused("link(3, 3, 10)", x, () -> x.link(3, 3, 10), UNKNOWN);
        check.refused("link(4, 0, 1)", x, () -> x.link(4, 0, 1), UNKNOWN);
        check.refused("link(0, 4, 10)", x, () -> x.link(0, 4, 10), UNKNOWN);
        check.refused("link(-1, 0, 1)", x, () -> x.link(-1, 0, 1), UNKNOWN);
        check.refused("link(0, -1, 1)", x, () -> x.link(0, -1, 1), UNKNOWN);
        check.due("link(0, 3, 0)", x.link(0, 3, 0), 1);
        check.due("count(1) then", x.count(1), 0);
    }

    private static void want() {
        check.promise(12, "want");
        MixedRules x = zigzag();
        check.due("want(0)", x.want(0), 15);
        check.due("want(15)", x.want(15), 0);
        check.due("want(9)", x.want(9), 15);
        check.refused("want(16)", x, () -> x.want(16), OUTSIDE);
        check.refused("want(-1)", x, () -> x.want(-1), OUTSIDE);
        check.due("count(2)", x.count(2), 9);
        x.want(0);
        check.due("turn(0, 7): nothing is wanted", x.turn(0, 7), 7);
    }

    private static void slots() {
        check.promise(13, "slots");
        MixedRules x = new MixedRules();
        check.due("slots(1)", x.slots(1), 6);
        check.due("slots(6)", x.slots(6), 1);
        check.due("slots(3)", x.slots(3), 6);
        check.refused("slots(0)", x, () -> x.slots(0), OUTSIDE);
        check.refused("slots(7)", x, () -> x.slots(7), OUTSIDE);
        check.due("count(3)", x.count(3), 3);
    }

    private static void turn() {
        check.promise(14, "turn");
        MixedRules x = zigzag();
        check.refused("turn(0, 7): not safe", x, () -> x.turn(0, 7), NOT);
        check.refused("turn(0, 4): not safe", x, () -> x.turn(0, 4), NOT);
        check.refused("turn(0, 6): safe by all of it, not by a part", x, () -> x.turn(0, 6), NOT);
        check.due("turn(0, 2)", x.turn(0, 2), 2);
        check.due("flow(0, 7)", x.flow(0, 7), 1);
        check.refused("turn(0, 2) again", x, () -> x.turn(0, 2), OUTSIDE);
        check.refused("turn(0, 3)", x, () -> x.turn(0, 3), OUTSIDE);
        check.refused("turn(0, 0)", x, () -> x.turn(0, 0), OUTSIDE);
        check.refused("turn(0, 8): of the goal", x, () -> x.turn(0, 8), OUTSIDE);
        check.refused("turn(0, 257)", x, () -> x.turn(0, 257), OUTSIDE);
        check.refused("turn(0, -1)", x, () -> x.turn(0, -1), OUTSIDE);
        check.refused("turn(3, 1)", x, () -> x.turn(3, 1), UNKNOWN);
        check.refused("turn(-1, 0)", x, () -> x.turn(-1, 0), UNKNOWN);
        check.due("turn(0, 5)", x.turn(0, 5), 7);
        check.due("flow(0, 7) then", x.flow(0, 7), 2);
        MixedRules ready = zigzag();
        ready.ready(0);
        check.refused("turn(0, 2) when ready", ready, () -> ready.turn(0, 2), NOT);
        check.refused("turn(0, 8) when ready", ready, () -> ready.turn(0, 8), OUTSIDE);
        ready.flip(0);
        check.refused("turn(0, 2) when flipped", ready, () -> ready.turn(0, 2), NOT);
        MixedRules cut = zigzag();
        cut.link(1, 2, 0);
        check.refused("turn(0, 1): it is not sound by turned", cut, () -> cut.turn(0, 1), NOT);
    }

    private static void turnAmongLetters() {
        MixedRules x = Check.of(WAYS, LINKS, OTHER);
        x.link(0, 1, 9);
        x.link(1, 2, 9);
        x.link(2, 3, 9);
        x.send(0);
        x.send(1);
        check.due("turn(0, 2): no letter is stale by then", x.turn(0, 2), 2);
        check.refused("turn(0, 1): a letter is stale", x, () -> x.turn(0, 1), NOT);
        check.due("turn(1, 2): only another flow's is", x.turn(1, 2), 2);
        x.tick();
        check.refused("turn(0, 1): it still is", x, () -> x.turn(0, 1), NOT);
        check.due("tick()", x.tick(), 2);
        check.due("turn(0, 1): it is there", x.turn(0, 1), 3);
    }

    private static void force() {
        check.promise(15, "force");
        MixedRules x = zigzag();
        x.send(0);
        check.due("force(0, 4), not safe", x.force(0, 4), 4);
        check.due("force(0, 1), a letter is stale", x.force(0, 1), 5);
        check.due("flow(0, 5)", x.flow(0, 5), 5);
        check.due("flow(0, 7)", x.flow(0, 7), 2);
        check.due("letter(0, 4)", x.letter(0, 4), 2);
        check.refused("force(0, 1) again", x, () -> x.force(0, 1), OUTSIDE);
        check.refused("force(0, 0)", x, () -> x.force(0, 0), OUTSIDE);
        check.refused("force(0, 8)", x, () -> x.force(0, 8), OUTSIDE);
        check.refused("force(0, the least)", x, () -> x.force(0, Integer.MIN_VALUE), OUTSIDE);
        check.refused("force(3, 2)", x, () -> x.force(3, 2), UNKNOWN);
        check.refused("force(-1, 0)", x, () -> x.force(-1, 0), UNKNOWN);
        MixedRules ready = zigzag();
        ready.ready(0);
        check.refused("force(0, 2) when ready", ready, () -> ready.force(0, 2), NOT);
        check.refused("force(0, 8) when ready", ready, () -> ready.force(0, 8), OUTSIDE);
    }

    private static void advance() {
        check.promise(16, "advance");
        MixedRules x = zigzag();
        check.due("advance(0)", x.advance(0), 3);
        check.due("flow(0, 5)", x.flow(0, 5), 3);
        check.due("flow(0, 7)", x.flow(0, 7), 1);
        check.due("advance(0) again", x.advance(0), 4);
        check.due("flow(0, 5) then", x.flow(0, 5), 7);
        check.refused("advance(0): all are turned", x, () -> x.advance(0), NOT);
        check.due("reverse(0)", x.reverse(0), 3);
        check.due("advance(0) once more", x.advance(0), 4);
        check.refused("advance(1): no movers", x, () -> x.advance(1), NOT);
        check.refused("advance(3)", x, () -> x.advance(3), UNKNOWN);
        check.refused("advance(-1)", x, () -> x.advance(-1), UNKNOWN);
    }

    private static void advanceRefused() {
        MixedRules none = zigzag();
        none.link(1, 3, 1);
        check.refused("advance(0): there is no plan", none, () -> none.advance(0), NONE);
        none.ready(0);
        check.refused("advance(0): ready, and no plan", none, () -> none.advance(0), NOT);
        MixedRules stale = zigzag();
        stale.send(0);
        check.due("advance(0) with a letter", stale.advance(0), 3);
        check.due("letter(0, 4)", stale.letter(0, 4), 1);
        check.refused("advance(0): it is stale", stale, () -> stale.advance(0), NOT);
        stale.tick();
        stale.tick();
        check.due("advance(0): it is gone", stale.advance(0), 4);
    }

    private static void reverse() {
        check.promise(17, "reverse");
        MixedRules x = zigzag();
        check.refused("reverse(0): there is none", x, () -> x.reverse(0), NOT);
        x.send(0);
        x.turn(0, 2);
        x.force(0, 4);
        x.force(0, 1);
        check.due("reverse(0)", x.reverse(0), 6);
        check.due("flow(0, 7)", x.flow(0, 7), 2);
        check.due("letter(0, 4): a taking back is a round", x.letter(0, 4), 4);
        check.due("force(0, 1)", x.force(0, 1), 7);
        check.due("reverse(0) again", x.reverse(0), 6);
        check.due("reverse(0) of the one ahead", x.reverse(0), 2);
        check.due("reverse(0) of the first", x.reverse(0), 0);
        check.refused("reverse(0): none is left", x, () -> x.reverse(0), NOT);
        check.refused("reverse(1)", x, () -> x.reverse(1), NOT);
        check.refused("reverse(3)", x, () -> x.reverse(3), UNKNOWN);
        check.refused("reverse(-1)", x, () -> x.reverse(-1), UNKNOWN);
        x.tick();
        x.tick();
        x.tick();
        check.due("advance(0)", x.advance(0), 3);
        check.due("reverse(0) of an advance", x.reverse(0), 0);
        x.ready(0);
        check.refused("reverse(0) when ready", x, () -> x.reverse(0), NOT);
    }

    private static void ready() {
        check.promise(18, "ready");
        MixedRules x = zigzag();
        check.due("ready(0)", x.ready(0), 2);
        check.due("flow(0, 6)", x.flow(0, 6), 1);
        check.due("table(3)", x.table(3), 0);
        check.refused("ready(0) again", x, () -> x.ready(0), NOT);
        check.due("ready(1): without rules", x.ready(1), 2);
        x.flip(0);
        check.refused("ready(0) when flipped", x, () -> x.ready(0), NOT);
        check.refused("ready(3)", x, () -> x.ready(3), UNKNOWN);
        check.refused("ready(-1)", x, () -> x.ready(-1), UNKNOWN);
        MixedRules some = zigzag();
        some.turn(0, 1);
        check.refused("ready(0): some are turned", some, () -> some.ready(0), NOT);
        some.reverse(0);
        check.due("ready(0): none are", some.ready(0), 2);
    }

    private static void readyWithSmallTables() {
        MixedRules x = Check.of(WAYS, OTHER);
        x.slots(3);
        check.due("ready(0) in small tables", x.ready(0), 3);
        check.refused("ready(1): a table would be 4", x, () -> x.ready(1), FULL);
        check.due("flow(1, 6)", x.flow(1, 6), 0);
        x.slots(4);
        check.due("ready(1) in greater ones", x.ready(1), 4);
        x.slots(1);
        check.refused("ready(2): tables are more than slots already", x, () -> x.ready(2), FULL);
        check.refused("ready(1): not, and full", x, () -> x.ready(1), NOT);
        MixedRules three = Check.of(WAYS, OTHER, "flow 2 0 3 1;old 2 0 1;new 2 0 2");
        three.ready(0);
        three.ready(1);
        check.due("ready(2): the most that there can be", three.ready(2), 6);
    }

    private static void flip() {
        check.promise(19, "flip");
        MixedRules x = zigzag();
        check.refused("flip(0): it is plain", x, () -> x.flip(0), NOT);
        x.send(0);
        x.send(1);
        x.send(0);
        x.ready(0);
        check.due("flip(0)", x.flip(0), 2);
        check.due("flow(0, 6)", x.flow(0, 6), 2);
        check.due("letter(0, 3): sent ahead", x.letter(0, 3), 0);
        check.refused("flip(0): it is flipped", x, () -> x.flip(0), NOT);
        x.send(0);
        check.due("letter(3, 3): sent behind", x.letter(3, 3), 1);
        x.ready(2);
        check.due("flip(2)", x.flip(2), 0);
        check.refused("flip(3)", x, () -> x.flip(3), UNKNOWN);
        check.refused("flip(-1)", x, () -> x.flip(-1), UNKNOWN);
    }

    private static void finish() {
        check.promise(20, "finish");
        MixedRules x = zigzag();
        check.refused("finish(0): it is plain", x, () -> x.finish(0), NOT);
        x.send(0);
        x.send(1);
        x.ready(0);
        check.refused("finish(0): it is ready", x, () -> x.finish(0), NOT);
        x.flip(0);
        x.send(0);
        check.refused("finish(0): an old letter is under way", x, () -> x.finish(0), NOT);
        x.tick();
        x.tick();
        x.send(0);
        check.refused("finish(0): it still is", x, () -> x.finish(0), NOT);
        check.due("tick()", x.tick(), 2);
        check.due("finish(0)", x.finish(0), 7);
        check.due("flow(0, 5)", x.flow(0, 5), 7);
        check.due("flow(0, 6)", x.flow(0, 6), 0);
        check.due("flow(0, 7)", x.flow(0, 7), 0);
        check.due("letter(0, 4): no round", x.letter(0, 4), 0);
        check.refused("reverse(0)", x, () -> x.reverse(0), NOT);
        check.refused("ready(0): some are turned", x, () -> x.ready(0), NOT);
        check.refused("finish(0) again", x, () -> x.finish(0), NOT);
        x.ready(2);
        x.flip(2);
        check.due("finish(2): no movers", x.finish(2), 0);
        check.refused("finish(3)", x, () -> x.finish(3), UNKNOWN);
        check.refused("finish(-1)", x, () -> x.finish(-1), UNKNOWN);
    }

    private static void cancel() {
        check.promise(21, "cancel");
        MixedRules x = zigzag();
        check.refused("cancel(0): it is plain", x, () -> x.cancel(0), NOT);
        x.ready(0);
        x.send(0);
        check.due("cancel(0) when ready", x.cancel(0), 1);
        check.due("flow(0, 6)", x.flow(0, 6), 0);
        check.due("flow(0, 5)", x.flow(0, 5), 0);
        x.ready(0);
        x.flip(0);
        check.due("cancel(0) when flipped", x.cancel(0), 2);
        x.ready(0);
        x.flip(0);
        x.send(0);
        check.refused("cancel(0): a stamped letter is under way", x, () -> x.cancel(0), NOT);
        x.ready(1);
        check.due("cancel(1): it is another flow's", x.cancel(1), 1);
        x.tick();
        x.tick();
        x.tick();
        check.due("cancel(0): it is there", x.cancel(0), 2);
        check.refused("cancel(3)", x, () -> x.cancel(3), UNKNOWN);
        check.refused("cancel(-1)", x, () -> x.cancel(-1), UNKNOWN);
    }

    private static void send() {
        check.promise(22, "send");
        MixedRules x = Check.of("net 4;flow 1 2 3 1");
        check.refused("send(3)", x, () -> x.send(3), UNKNOWN);
        check.refused("send(-1)", x, () -> x.send(-1), UNKNOWN);
        for (int i = 1; i <= 12; i++) {
            check.due("send(1) as letter " + i, x.send(1), i);
        }
        int[] fresh = {1, 2, 0, 0, 0, 0};
        for (int what = 0; what < fresh.length; what++) {
            check.due("letter(11, " + what + ")", x.letter(11, what), fresh[what]);
        }
        check.refused("send(0): there are 12", x, () -> x.send(0), FULL);
        check.refused("send(3): there are 12", x, () -> x.send(3), UNKNOWN);
        check.due("count(4)", x.count(4), 12);
        x.tick();
        check.due("send(0) when all are lost", x.send(0), 1);
        check.due("letter(0, 1)", x.letter(0, 1), 0);
    }

    private static void tick() {
        check.promise(23, "tick");
        MixedRules x = zigzag();
        check.due("tick() of none", x.tick(), 0);
        x.send(0);
        x.send(1);
        check.due("tick(): flow 1 has no rules", x.tick(), 0);
        check.due("count(4)", x.count(4), 1);
        check.due("count(8)", x.count(8), 1);
        check.due("letter(0, 1)", x.letter(0, 1), 1);
        check.due("letter(0, 2)", x.letter(0, 2), 1);
        x.send(0);
        check.due("tick() again", x.tick(), 0);
        check.due("letter(0, 1): the first one", x.letter(0, 1), 2);
        check.due("letter(1, 1): the other one", x.letter(1, 1), 1);
        x.send(0);
        x.link(1, 2, 0);
        check.due("tick(): one is there, one is lost", x.tick(), 1);
        check.due("count(4) then", x.count(4), 1);
        check.due("count(5)", x.count(5), 1);
        check.due("count(8) then", x.count(8), 2);
        check.due("letter(0, 1): the third one", x.letter(0, 1), 1);
        check.due("letter(0, 2): of the third one", x.letter(0, 2), 1);
    }

    private static void tickMixed() {
        MixedRules x = Check.of(WAYS, LINKS, "post 0 2");
        x.send(0);
        x.tick();
        check.due("letter(0, 5): by old alone", x.letter(0, 5), 0);
        x.force(0, 2);
        x.send(0);
        check.due("tick(): from 1 by new to 3", x.tick(), 1);
        check.due("count(6): not by its post", x.count(6), 1);
        check.due("count(7): mixed", x.count(7), 1);
        x.reverse(0);
        x.tick();
        x.tick();
        check.due("count(5)", x.count(5), 2);
        check.due("count(6): the other one was", x.count(6), 1);
        check.due("count(7): the other one went by old", x.count(7), 1);
        x.force(0, 1);
        x.send(0);
        x.tick();
        check.due("letter(0, 1): to 2 by new", x.letter(0, 1), 2);
        check.due("letter(0, 5)", x.letter(0, 5), 0);
        x.force(0, 4);
        x.tick();
        check.due("letter(0, 1): to 1 by new", x.letter(0, 1), 1);
        x.tick();
        check.due("letter(0, 1): to 2 by old", x.letter(0, 1), 2);
        check.due("letter(0, 5): mixed", x.letter(0, 5), 1);
        check.due("letter(0, 4)", x.letter(0, 4), 1);
        x.reverse(0);
        check.due("tick(): there", x.tick(), 1);
        check.due("count(7) then", x.count(7), 2);
        check.due("count(6) then: by its post", x.count(6), 1);
    }

    private static void tickStamped() {
        MixedRules x = zigzag();
        x.send(0);
        x.ready(0);
        x.flip(0);
        x.send(0);
        x.tick();
        check.due("letter(0, 1): by old", x.letter(0, 1), 1);
        check.due("letter(1, 1): by new", x.letter(1, 1), 2);
        x.tick();
        check.due("letter(0, 1): by old on", x.letter(0, 1), 2);
        check.due("letter(1, 1): by new on", x.letter(1, 1), 1);
        check.due("tick()", x.tick(), 2);
        check.due("count(5)", x.count(5), 2);
        check.due("count(7): none is mixed", x.count(7), 0);
        MixedRules lost = Check.of("net 3;old 0 0 2;old 0 2 1;new 0 0 2;link 0 2 1;link 2 1 1");
        lost.ready(0);
        lost.flip(0);
        lost.send(0);
        lost.tick();
        check.due("letter(0, 1): old and new are alike", lost.letter(0, 1), 2);
        check.due("tick(): no new rule there", lost.tick(), 0);
        check.due("count(8)", lost.count(8), 1);
    }

    private static void tickToTheLastHop() {
        String ring = "net 3;flow 0 0 2 1;link 0 1 1;link 1 0 1;link 1 2 1;old 0 0 1;old 0 1 0;new 0 0 1;new 0 1 2";
        MixedRules x = Check.of(ring);
        x.send(0);
        for (int i = 1; i <= 19; i++) {
            check.due("tick() " + i, x.tick(), 0);
            check.due("letter(0, 2) behind it", x.letter(0, 2), i);
        }
        check.due("tick() 20", x.tick(), 0);
        check.due("count(4)", x.count(4), 0);
        check.due("count(8): lost by its 20th hop", x.count(8), 1);
        x.send(0);
        for (int i = 1; i <= 19; i++) {
            x.tick();
        }
        x.force(0, 2);
        check.due("tick() 20: the goal", x.tick(), 1);
        check.due("count(5)", x.count(5), 1);
        check.due("count(7): from one node by old and by new", x.count(7), 1);
        check.due("count(8) then", x.count(8), 1);
    }
}
