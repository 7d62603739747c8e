/**
 * Promises 1 to 32 at the edges of their numbers: the last that is allowed and the first that is not, numbers far
 * outside, each refusal by itself, and the one that is answered where several fit. That nothing changes where a call is
 * refused is found by each run's twin.
 */
public final class EdgeCallsTest {
    private static final int NONE = -1, UNKNOWN = -2, OUTSIDE = -3, NOT = -4, FULL = -5;
    private static final int LEAST = Integer.MIN_VALUE, GREATEST = Integer.MAX_VALUE;
    private static final Check check = new Check();
    /** Among them those that come back into bounds where a shift, a product or a byte wraps around. */
    private static final int[] FAR = {LEAST, LEAST + 1, LEAST + 2, -65536, -257, -256, -64, -33, -32, -8, -5, -4, -3, -2, -1, 8, 9, 10,
        11, 12, 13, 16, 31, 32, 33, 64, 128, 255, 256, 257, 65536, 1 << 30, GREATEST - 1, GREATEST};
    /** By old 0 1 3, by new 0 2 3: node 2 must turn ahead of 0, and 0 ahead of 1. */
    private static final String WAYS = "net 4;flow 0 0 3 1;old 0 0 1;old 0 1 3;new 0 0 2;new 0 2 3";
    private static final String LINKS = "link 0 1 9;link 1 3 9;link 0 2 9;link 2 3 9";

    public static void main(String[] args) {
        newObject();
        write();
        erase();
        fault();
        rules();
        roomAndLoad();
        flow();
        rule();
        table();
        link();
        want();
        slots();
        turnOutside();
        turnNot();
        force();
        advance();
        advanceNone();
        reverse();
        ready();
        readyFull();
        flip();
        finish();
        cancel();
        cancelWhatWasStamped();
        send();
        tick();
        sound();
        walk();
        safe();
        plan();
        rounds();
        order();
        waits();
        letter();
        count();
        check.end();
    }

    /** Some are turned, one flow is ready, one is flipped, letters are under way, others have gone, a text is begun. */
    private static Run busy() {
        Run x = Run.of(check, WAYS + ";new 1 0 2;new 2 0 1", LINKS);
        x.does("send(0)");
        x.does("send(1)");
        x.does("tick()");
        x.does("tick()");
        x.does("send(0)");
        x.does("turn(0, 4)");
        x.does("ready(1)");
        x.does("ready(2)");
        x.does("flip(2)");
        x.does("send(2)");
        x.does("send(1)");
        x.does("slots(5)");
        x.does("want(11)");
        x.write("net 3");
        return x;
    }

    /** The call with each number far outside of its bounds at the place of the question mark. */
    private static void far(Run x, String call, int least, int most, int want) {
        for (int number : FAR) {
            if (number < least || number > most) {
                x.due(call.replace("?", "" + number), want);
            }
        }
    }

    /** A call of a flow: no others than 0 to 2 are known, whatever the rest of its numbers is. */
    private static void knowsFlows(String behind) {
        Run x = busy();
        far(x, behind.replaceFirst("FLOW", "?"), 0, 2, UNKNOWN);
        x.due(behind.replaceFirst("FLOW", "3"), UNKNOWN);
        x.due(behind.replaceFirst("FLOW", "-1"), UNKNOWN);
    }

    private static void newObject() {
        check.promise(1, "a new object");
        Run x = new Run(check);
        x.due("fault()", 0);
        x.due("rules()", NOT);
        x.due("erase()", 0);
        x.due("tick()", 0);
        x.dueFromZero("count(", 2, 0, 15, 6, 0, 0, 0, 0, 0, 0, 0, OUTSIDE);
        for (int k = 0; k <= 2; k++) {
            x.dueFromZero("flow(" + k + ", ", 0, 1, 1, NONE, 0, 0, 0, 0, OUTSIDE);
        }
        x.dueFromZero("letter(0, ", UNKNOWN);
    }

    private static void write() {
        check.promise(2, "write");
        Run each = new Run(check);
        for (int letter = 0; letter <= 199; letter++) {
            each.due("write(" + letter + ")", letter + 1);
        }
        each.due("write(200)", FULL);
        each.does("erase()");
        for (int letter = 200; letter <= 255; letter++) {
            each.due("write(" + letter + ")", letter - 199);
        }
        each.due("write(256)", OUTSIDE);
        each.due("write(-1)", OUTSIDE);
        far(busy(), "write(?)", 0, 255, OUTSIDE);
        Run full = new Run(check);
        full.write(" ".repeat(200));
        far(full, "write(?)", 0, 255, OUTSIDE);
        full.due("write(0)", FULL);
        full.due("write(255)", FULL);
    }

    private static void erase() {
        check.promise(3, "erase");
        Run x = busy();
        x.due("erase()", 5);
        x.due("erase() of none", 0);
        x.due("fault()", 0);
        x.due("count(4): nothing else is erased", 3);
        x.due("flow(0, 5)", 4);
        Run full = new Run(check);
        full.write("x".repeat(200));
        full.due("erase() of all", 200);
        full.due("count(9)", 0);
    }

    private static void fault() {
        check.promise(4, "fault");
        Run x = busy();
        x.due("fault()", NONE);
        x.due("count(9): it stays", 5);
        x.due("count(0): nothing is done", 4);
        x.write(";");
        x.due("fault(): the length", 6);
        x.write(";");
        x.due("fault(): the letter", 6);
        x.due("erase()", 7);
        x.due("fault() of none", 0);
    }

    private static void rules() {
        check.promise(5, "rules");
        Run x = busy();
        x.write(";");
        x.due("rules(): it has a fault", NOT);
        x.due("count(9): it stays", 6);
        x.due("count(0)", 4);
        x.write("net 5");
        x.due("rules()", 2);
        x.due("count(0)", 5);
        x.due("count(9): it is empty", 0);
        x.due("rules() of none", NOT);
        x.write("net2;".repeat(23) + "net2");
        x.due("rules() of the most", 24);
    }

    private static void roomAndLoad() {
        for (String call : new String[] {"room", "load"}) {
            check.promise(call.equals("room") ? 6 : 7, call);
            Run from = busy();
            far(from, call + "(?, 0)", 0, 3, UNKNOWN);
            from.due(call + "(4, 0)", UNKNOWN);
            from.due(call + "(4, 4)", UNKNOWN);
            Run to = busy();
            far(to, call + "(0, ?)", 0, 3, UNKNOWN);
            far(to, call + "(?, ?)", 0, 3, UNKNOWN);
            to.due(call + "(0, 4)", UNKNOWN);
            to.due(call + "(3, 3): the same", 0);
            to.due(call + "(3, 2): no link", 0);
        }
        check.promise(7, "load");
        Run most = Run.of(check, "flow 0 0 1 9;flow 1 0 1 9;flow 2 0 1 9;old 0 0 1;old 1 0 1;old 2 0 1;link 0 1 1");
        most.due("load(0, 1): the most that there can be", 27);
        most.due("load(1, 0)", 0);
        most.due("load(0, 0)", 0);
        most.does("link(0, 1, 0)");
        most.due("load(0, 1): no link", 0);
    }

    private static void flow() {
        check.promise(8, "flow");
        Run x = busy();
        x.dueFromZero("flow(0, ", 0, 3, 1, NONE, 7, 4, 0, 1, OUTSIDE);
        x.dueFromZero("flow(1, ", 0, 1, 1, NONE, 1, 0, 1, 0, OUTSIDE);
        x.dueFromZero("flow(2, ", 0, 1, 1, NONE, 1, 0, 2, 0, OUTSIDE);
        far(x, "flow(0, ?)", 0, 7, OUTSIDE);
        far(x, "flow(2, ?)", 0, 7, OUTSIDE);
        knowsFlows("flow(FLOW, 0)");
        knowsFlows("flow(FLOW, 8)");
        knowsFlows("flow(FLOW, " + LEAST + ")");
    }

    private static void rule() {
        check.promise(9, "rule");
        Run x = busy();
        x.dueFromZero("rule(0, 0, ", 1, 2, 1, OUTSIDE);
        x.dueFromZero("rule(0, 2, ", NONE, 3, 3, OUTSIDE);
        x.dueFromZero("rule(0, 3, ", NONE, NONE, NONE, OUTSIDE);
        far(x, "rule(0, 0, ?)", 0, 2, OUTSIDE);
        far(x, "rule(0, ?, 0)", 0, 3, UNKNOWN);
        x.due("rule(0, 4, 0)", UNKNOWN);
        Run both = busy();
        far(both, "rule(0, ?, 3)", 0, 3, UNKNOWN);
        both.due("rule(0, 4, " + GREATEST + ")", UNKNOWN);
        both.due("rule(3, 4, 3)", UNKNOWN);
        knowsFlows("rule(FLOW, 0, 0)");
        knowsFlows("rule(FLOW, 0, -1)");
    }

    private static void table() {
        check.promise(10, "table");
        Run x = busy();
        x.dueFromZero("table(", 3, 1, 1, 0, UNKNOWN);
        far(x, "table(?)", 0, 3, UNKNOWN);
    }

    private static void link() {
        check.promise(11, "link");
        Run numbers = busy();
        far(numbers, "link(0, 3, ?)", 0, 9, OUTSIDE);
        numbers.due("link(0, 3, 10)", OUTSIDE);
        numbers.due("link(0, 3, 9)", 0);
        numbers.due("link(0, 3, 0)", 9);
        numbers.due("link(0, 3, 1)", 0);
        Run nodes = busy();
        far(nodes, "link(?, 0, 1)", 0, 3, UNKNOWN);
        far(nodes, "link(0, ?, 1)", 0, 3, UNKNOWN);
        far(nodes, "link(?, 0, 10)", 0, 3, UNKNOWN);
        nodes.due("link(4, 0, 1)", UNKNOWN);
        nodes.due("link(0, 4, 1)", UNKNOWN);
        Run same = busy();
        far(same, "link(?, ?, 1)", 0, 3, UNKNOWN);
        far(same, "link(0, ?, -1)", 0, 3, UNKNOWN);
        for (int node = 0; node <= 4; node++) {
            same.due("link(" + node + ", " + node + ", 1)", UNKNOWN);
            same.due("link(" + node + ", " + node + ", 10)", UNKNOWN);
        }
        same.due("count(1)", 4);
    }

    private static void want() {
        check.promise(12, "want");
        Run x = busy();
        far(x, "want(?)", 0, 15, OUTSIDE);
        int was = 11;
        for (int set = 0; set <= 15; set++) {
            x.due("want(" + set + ")", was);
            x.due("count(2)", set);
            was = set;
        }
        x.due("want(16)", OUTSIDE);
        x.due("want(-1)", OUTSIDE);
    }

    private static void slots() {
        check.promise(13, "slots");
        Run x = busy();
        far(x, "slots(?)", 1, 6, OUTSIDE);
        int was = 5;
        for (int n = 1; n <= 6; n++) {
            x.due("slots(" + n + ")", was);
            x.due("count(3)", n);
            was = n;
        }
        x.due("slots(0)", OUTSIDE);
        x.due("slots(7)", OUTSIDE);
    }

    /** Sets that are no rounds of flow 0: its movers are 7, and 4 is turned. */
    private static void noRounds(String call) {
        Run x = busy();
        far(x, call.replaceFirst("SET", "?"), 1, 3, OUTSIDE);
        for (int set : new int[] {0, 4, 5, 6, 7, 8, 9, 259, LEAST | 1, LEAST | 3, -253, 1 << 16 | 2, 1 << 8 | 1}) {
            x.due(call.replaceFirst("SET", "" + set), OUTSIDE);
        }
    }

    private static void turnOutside() {
        check.promise(14, "turn");
        noRounds("turn(0, SET)");
        knowsFlows("turn(FLOW, 1)");
        knowsFlows("turn(FLOW, 0)");
        Run x = busy();
        x.due("turn(1, 2): no round, and its phase is 1", OUTSIDE);
        x.due("turn(2, 0): no round, and its phase is 2", OUTSIDE);
        x.due("turn(0, 4): no round, and a letter is stale", OUTSIDE);
        x.due("turn(3, 4): no flow, and no round", UNKNOWN);
        Run one = Run.of(check, "net 8;flow 0 7 0 1;new 0 7 0;link 7 0 1");
        one.does("want(0)");
        one.due("turn(0, 127)", OUTSIDE);
        one.due("turn(0, -128)", OUTSIDE);
        one.due("turn(0, 128): the last node", 128);
        one.due("turn(0, 128): it is turned", OUTSIDE);
    }

    private static void turnNot() {
        check.promise(14, "turn");
        Run ready = Run.of(check, WAYS, LINKS);
        ready.does("ready(0)");
        ready.due("turn(0, 4): safe, but ready", NOT);
        ready.does("flip(0)");
        ready.due("turn(0, 4): safe, but flipped", NOT);
        ready.does("cancel(0)");
        ready.due("turn(0, 4): plain again", 4);
        Run stale = Run.of(check, WAYS, LINKS);
        stale.does("send(0)");
        stale.does("turn(0, 4)");
        stale.due("turn(0, 1): safe, but a letter is stale", NOT);
        stale.does("tick()");
        stale.does("tick()");
        stale.due("turn(0, 1): it is gone", 5);
        Run unsafe = Run.of(check, WAYS, LINKS);
        unsafe.due("turn(0, 1): not safe", NOT);
        unsafe.due("turn(0, 5): not safe", NOT);
        unsafe.due("turn(0, 7): not safe", NOT);
        unsafe.does("want(0)");
        unsafe.due("turn(0, 7): safe by now", 7);
        unsafe.due("flow(0, 7): one round", 1);
    }

    private static void force() {
        check.promise(15, "force");
        noRounds("force(0, SET)");
        knowsFlows("force(FLOW, 1)");
        knowsFlows("force(FLOW, 0)");
        Run x = busy();
        x.due("force(1, 2): no round, and its phase is 1", OUTSIDE);
        x.due("force(1, 1): its phase is 1", NOT);
        x.due("force(2, 0): no round, and its phase is 2", OUTSIDE);
        x.due("force(2, 1): its phase is 2", NOT);
        x.due("force(0, 2): not safe, and a letter is stale", 6);
        x.due("force(0, 1)", 7);
        x.due("flow(0, 7)", 3);
        x.due("force(0, 1): it is turned", OUTSIDE);
        Run most = Run.of(check, "net 8;flow 0 7 0 1;new 0 1 0;new 0 2 0;new 0 3 0;new 0 4 0;new 0 5 0;new 0 6 0;new 0 7 0");
        for (int node = 1; node <= 7; node++) {
            most.due("force(0, " + (1 << node) + ")", (2 << node) - 2);
            most.due("flow(0, 7): the most that there can be at the end", node);
        }
        most.due("force(0, 1)", OUTSIDE);
        for (int node = 7; node >= 1; node--) {
            most.due("reverse(0)", (1 << node) - 2);
        }
        most.due("reverse(0): none is left", NOT);
        most.due("force(0, 254): all at once", 254);
        most.due("flow(0, 7)", 1);
        most.due("reverse(0)", 0);
    }

    private static void advance() {
        check.promise(16, "advance");
        knowsFlows("advance(FLOW)");
        Run x = busy();
        x.due("advance(0): a letter is stale", NOT);
        x.due("advance(1): its phase is 1", NOT);
        x.due("advance(2): its phase is 2", NOT);
        x.does("tick()");
        x.does("tick()");
        x.due("advance(0): it is gone", 1);
        x.due("advance(0)", 2);
        x.due("advance(0): all are turned", NOT);
        x.due("flow(0, 7)", 3);
        x.due("reverse(0)", 5);
        x.due("advance(0): once more", 2);
        Run none = new Run(check);
        none.due("advance(2): no movers", NOT);
    }

    private static void advanceNone() {
        check.promise(16, "advance");
        Run x = Run.of(check, WAYS, LINKS);
        x.does("link(2, 3, 0)");
        x.due("advance(0): there is no plan", NONE);
        x.due("flow(0, 5): nothing changes", 0);
        x.does("send(0)");
        x.due("advance(0): no plan, a letter that is not stale", NONE);
        x.due("letter(0, 4)", 0);
        x.does("force(0, 4)");
        x.due("advance(0): no plan, and a letter is stale", NOT);
        x.does("force(0, 3)");
        x.due("advance(0): all are turned", NOT);
        x.does("reverse(0)");
        x.does("reverse(0)");
        x.does("ready(0)");
        x.due("advance(0): no plan, and its phase is 1", NOT);
        Run unsound = Run.of(check, WAYS, LINKS);
        unsound.does("link(1, 3, 0)");
        unsound.due("advance(0): not sound by turned", NONE);
    }

    private static void reverse() {
        check.promise(17, "reverse");
        knowsFlows("reverse(FLOW)");
        Run x = busy();
        x.due("reverse(1): its phase is 1, there is none", NOT);
        x.due("reverse(2): its phase is 2, there is none", NOT);
        x.due("reverse(0): a letter is stale", 0);
        x.due("letter(0, 4): one round more", 2);
        x.due("reverse(0): there is none", NOT);
        x.due("flow(0, 7)", 0);
        x.due("force(0, 3)", 3);
        x.due("force(0, 4)", 7);
        x.due("reverse(0): the latest", 3);
        x.due("reverse(0): all of the one ahead", 0);
        x.due("reverse(0): there is none", NOT);
        Run done = Run.of(check, WAYS, LINKS);
        done.does("ready(0)");
        done.does("flip(0)");
        done.due("finish(0)", 7);
        done.due("reverse(0): it is finished", NOT);
        done.due("flow(0, 5)", 7);
        Run first = new Run(check);
        first.due("reverse(0) at first", NOT);
    }

    private static void ready() {
        check.promise(18, "ready");
        knowsFlows("ready(FLOW)");
        Run x = busy();
        x.due("ready(0): some are turned", NOT);
        x.due("ready(1): it is ready", NOT);
        x.due("ready(2): it is flipped", NOT);
        x.due("reverse(0)", 0);
        x.due("ready(0): a stale letter is no matter", 4);
        x.due("flow(0, 6)", 1);
        Run all = Run.of(check, WAYS, LINKS);
        all.does("force(0, 7)");
        all.due("ready(0): all are turned", NOT);
        all.does("reverse(0)");
        all.due("ready(0): none are", 2);
        Run none = new Run(check);
        none.due("ready(2): no rules at all", 0);
        none.due("flow(2, 6)", 1);
    }

    private static void readyFull() {
        check.promise(18, "ready");
        Run x = Run.of(check, WAYS, LINKS);
        x.does("slots(1)");
        x.due("ready(0): 2 of 1", FULL);
        x.due("flow(0, 6)", 0);
        x.due("table(0)", 1);
        x.does("force(0, 4)");
        x.due("ready(0): some are turned, and 2 of 1", NOT);
        x.does("reverse(0)");
        x.does("slots(2)");
        x.due("ready(0): 2 of 2", 2);
        x.does("slots(1)");
        x.due("ready(0): it is ready, and 2 of 1", NOT);
        x.due("ready(1): without rules, and 2 of 1", FULL);
        x.due("ready(3): no flow, and 2 of 1", UNKNOWN);
        Run last = Run.of(check, "net 8;old 0 7 0;new 0 7 1;old 1 7 0");
        last.does("slots(2)");
        last.due("ready(0): 3 of 2, at the last node alone", FULL);
        last.does("slots(3)");
        last.due("ready(0): 3 of 3", 3);
    }

    private static void flip() {
        check.promise(19, "flip");
        knowsFlows("flip(FLOW)");
        Run x = busy();
        x.due("flip(0): it is plain", NOT);
        x.due("flip(2): it is flipped", NOT);
        x.due("flip(1): a letter of its own", 1);
        x.due("flip(1): it is flipped", NOT);
        Run none = new Run(check);
        none.does("send(1)");
        none.does("ready(0)");
        none.due("flip(0): no letters of its own", 0);
        Run all = new Run(check);
        for (int i = 1; i <= 12; i++) {
            all.does("send(0)");
        }
        all.does("ready(0)");
        all.due("flip(0): the most that there can be", 12);
        Run stamped = Run.of(check, "net 3;old 0 0 2;new 0 0 2;link 0 2 1");
        stamped.does("ready(0)");
        stamped.does("flip(0)");
        stamped.does("send(0)");
        stamped.due("finish(0): no movers, so that it can be ready again", 0);
        stamped.does("send(0)");
        stamped.does("ready(0)");
        stamped.due("flip(0): one is stamped already", 2);
    }

    private static void finish() {
        check.promise(20, "finish");
        knowsFlows("finish(FLOW)");
        Run x = busy();
        x.due("finish(0): it is plain", NOT);
        x.due("finish(1): it is ready", NOT);
        Run ready = Run.of(check, WAYS, LINKS);
        ready.does("ready(0)");
        ready.due("finish(0): ready, and no letter is under way", NOT);
        ready.does("flip(0)");
        ready.due("finish(0): flipped, and no letter is under way", 7);
        x.due("finish(2): its letter is stamped, others are not", 1);
        x.due("flow(2, 6)", 0);
        x.due("finish(2): it is plain", NOT);
        x.due("flip(1)", 1);
        x.due("finish(1): a letter of it is not stamped", NOT);
        x.due("send(1)", 4);
        x.due("finish(1): one of two is not stamped", NOT);
        x.does("tick()");
        x.due("count(8): the one that is not stamped is lost", 2);
        x.due("finish(1)", 1);
        x.due("flow(1, 7): none can be taken back", 0);
        Run none = new Run(check);
        none.does("ready(0)");
        none.does("flip(0)");
        none.due("finish(0): no movers", 0);
    }

    private static void cancel() {
        check.promise(21, "cancel");
        knowsFlows("cancel(FLOW)");
        Run x = busy();
        x.due("cancel(0): it is plain", NOT);
        x.due("cancel(1): a letter of it is not stamped", 1);
        x.due("flow(1, 6)", 0);
        x.due("cancel(1): it is plain", NOT);
        x.due("cancel(2): a letter of it is stamped", NOT);
        x.due("flow(2, 6)", 2);
        x.due("tick(): it is there", 1);
        x.due("cancel(2)", 2);
        x.due("cancel(2): it is plain", NOT);
    }

    private static void cancelWhatWasStamped() {
        check.promise(21, "cancel");
        Run x = Run.of(check, "net 3;old 0 0 2;new 0 0 2;link 0 2 1");
        x.does("ready(0)");
        x.does("flip(0)");
        x.does("send(0)");
        x.due("finish(0): no movers, so that it can be ready again", 0);
        x.due("cancel(0): it is plain", NOT);
        x.due("ready(0)", 2);
        x.due("cancel(0): ready, and a letter is stamped yet", NOT);
        x.due("tick()", 0);
        x.due("cancel(0): it is under way", NOT);
        x.due("tick(): it is lost", 0);
        x.due("cancel(0)", 1);
    }

    private static void send() {
        check.promise(22, "send");
        knowsFlows("send(FLOW)");
        Run x = busy();
        for (int i = 4; i <= 12; i++) {
            x.due("send(" + (i % 3) + ")", i);
        }
        x.due("send(0): 12", FULL);
        x.due("send(1): 12", FULL);
        x.due("send(2): 12", FULL);
        far(x, "send(?)", 0, 2, UNKNOWN);
        x.due("count(4)", 12);
    }

    private static void tick() {
        check.promise(23, "tick");
        Run x = busy();
        x.due("tick(): one is there, one is lost", 1);
        x.due("count(4)", 1);
        x.due("tick()", 1);
        x.due("tick() of none", 0);
        x.dueFromZero("count(", 4, 4, 11, 5, 0, 3, 0, 0, 2);
        Run most = Run.of(check, "old 0 0 1;old 1 0 1;link 0 1 1");
        for (int i = 0; i < 12; i++) {
            most.does("send(" + (i % 2) + ")");
        }
        most.due("tick(): all of them", 12);
        most.due("count(5)", 12);
        for (int i = 0; i < 12; i++) {
            most.does("send(2)");
        }
        most.due("tick(): none of them", 0);
        most.due("count(8)", 12);
    }

    /** Sets of others than the movers of flow 0, which are 7. */
    private static void noMovers(String call) {
        Run x = busy();
        far(x, call.replaceFirst("SET", "?"), 0, 7, OUTSIDE);
        for (int set : new int[] {8, 15, 263, LEAST | 7, LEAST, -249, 1 << 16 | 2, 1 << 8}) {
            x.due(call.replaceFirst("SET", "" + set), OUTSIDE);
        }
    }

    private static void sound() {
        check.promise(24, "sound");
        noMovers("sound(0, SET)");
        knowsFlows("sound(FLOW, 0)");
        knowsFlows("sound(FLOW, 8)");
        Run x = busy();
        x.dueFromZero("sound(0, ", 15, 14, 14, 14, 15, 15, 14, 15, OUTSIDE);
        x.dueFromZero("sound(1, ", 14, 14, OUTSIDE, OUTSIDE);
        Run last = Run.of(check, "net 8;flow 0 7 0 1;new 0 7 0;link 7 0 1");
        last.due("sound(0, 128): the last node", 15);
        last.due("sound(0, 127)", OUTSIDE);
        last.due("sound(0, -128)", OUTSIDE);
        last.due("sound(0, 384)", OUTSIDE);
    }

    private static void walk() {
        check.promise(25, "walk");
        noMovers("walk(0, SET, 0)");
        noMovers("walk(0, SET, 3)");
        knowsFlows("walk(FLOW, 0, 0)");
        knowsFlows("walk(FLOW, 8, 3)");
        Run x = busy();
        far(x, "walk(0, 0, ?)", 0, 2, OUTSIDE);
        x.dueFromZero("walk(0, 0, ", 11, 3, 3, OUTSIDE);
        x.dueFromZero("walk(0, 7, ", 13, 3, 3, OUTSIDE);
        x.dueFromZero("walk(0, 1, ", 5, 2, 2, OUTSIDE);
        x.dueFromZero("walk(1, 0, ", 1, 1, 0, OUTSIDE);
        x.dueFromZero("walk(1, 2, ", OUTSIDE, OUTSIDE, OUTSIDE);
        Run last = Run.of(check, "net 8;flow 0 7 0 1;new 0 7 0;link 7 0 1");
        last.dueFromZero("walk(0, 0, ", 128, 1, 7);
        last.dueFromZero("walk(0, 128, ", 129, 2, 0);
    }

    private static void safe() {
        check.promise(26, "safe");
        noRounds("safe(0, SET, 0)");
        noRounds("safe(0, SET, 3)");
        knowsFlows("safe(FLOW, 1, 0)");
        knowsFlows("safe(FLOW, 0, 3)");
        Run x = busy();
        far(x, "safe(0, 1, ?)", 0, 2, OUTSIDE);
        x.dueFromZero("safe(0, 1, ", 1, NONE, NONE, OUTSIDE);
        x.dueFromZero("safe(0, 2, ", 0, 6, 0, OUTSIDE);
        x.dueFromZero("safe(0, 3, ", 0, 6, 0, OUTSIDE);
        x.does("force(0, 2)");
        x.dueFromZero("safe(0, 1, ", 0, 6, 0, OUTSIDE);
        x.due("safe(1, 1, 0): its phase is no matter, it is not sound", 0);
        x.due("safe(1, 1, 1): by none", 0);
        x.does("want(0)");
        x.dueFromZero("safe(1, 1, ", 1, NONE, NONE, OUTSIDE);
        x.dueFromZero("safe(1, 2, ", OUTSIDE, OUTSIDE, OUTSIDE, OUTSIDE);
    }

    private static void plan() {
        check.promise(27, "plan");
        knowsFlows("plan(FLOW, 0)");
        knowsFlows("plan(FLOW, -1)");
        Run x = busy();
        x.dueFromZero("plan(0, ", 1, 2, OUTSIDE, OUTSIDE);
        x.due("plan(0, -1)", OUTSIDE);
        far(x, "plan(0, ?)", 0, 1, OUTSIDE);
        x.does("link(2, 3, 0)");
        x.dueFromZero("plan(0, ", NOT, NOT, NOT);
        far(x, "plan(0, ?)", 0, 1, NOT);
        x.due("plan(3, 0): no flow", UNKNOWN);
        x.does("force(0, 3)");
        x.dueFromZero("plan(0, ", OUTSIDE, OUTSIDE);
        far(x, "plan(0, ?)", 0, 0, OUTSIDE);
    }

    private static void rounds() {
        check.promise(28, "rounds");
        knowsFlows("rounds(FLOW)");
        Run x = busy();
        x.due("rounds(0)", 2);
        x.does("reverse(0)");
        x.due("rounds(0): none is turned", 3);
        x.due("rounds(1): not sound", NONE);
        x.does("link(2, 3, 0)");
        x.due("rounds(0): there is none", NONE);
        x.does("force(0, 7)");
        x.due("rounds(0): all are turned", 0);
    }

    private static void order() {
        check.promise(29, "order");
        Run some = Run.of(check, WAYS, LINKS);
        some.dueFromZero("order(", 0, 1, 2, OUTSIDE);
        some.due("order(-1)", OUTSIDE);
        far(some, "order(?)", 0, 2, OUTSIDE);
        some.does("link(2, 3, 0)");
        some.dueFromZero("order(", NONE, NONE, NONE, OUTSIDE);
        some.due("order(-1): there is none", OUTSIDE);
        far(some, "order(?)", 0, 2, OUTSIDE);
        Run phases = Run.of(check, WAYS, LINKS);
        phases.does("ready(0)");
        phases.dueFromZero("order(", 0, 1, 2);
    }

    private static void waits() {
        check.promise(30, "waits");
        knowsFlows("waits(FLOW, 0)");
        knowsFlows("waits(FLOW, 3)");
        Run x = busy();
        far(x, "waits(0, ?)", 0, 2, UNKNOWN);
        far(x, "waits(?, ?)", 0, 2, UNKNOWN);
        x.due("waits(0, 3)", UNKNOWN);
        x.due("waits(0, -1)", UNKNOWN);
        for (int k = 0; k <= 2; k++) {
            x.due("waits(" + k + ", " + k + "): for itself", 0);
        }
        Run tight = Run.of(check, "flow 0 0 1 5;flow 1 0 1 5;new 0 0 1;old 1 0 1;new 1 0 1;link 0 1 9");
        tight.due("waits(0, 1): 10 in 9", 1);
        tight.due("waits(1, 0): not there by turned", 0);
        tight.due("waits(0, 0): for itself", 0);
        tight.does("force(0, 1)");
        tight.due("waits(0, 1): turned", 1);
        tight.due("waits(1, 0): there by turned", 1);
        tight.due("waits(1, 1): for itself", 0);
        tight.due("waits(2, 0): it does not arrive", 0);
    }

    private static void letter() {
        check.promise(31, "letter");
        Run x = busy();
        x.dueFromZero("letter(0, ", 0, 0, 0, 0, 1, 0, OUTSIDE);
        x.dueFromZero("letter(1, ", 2, 0, 0, 1, 0, 0, OUTSIDE);
        x.dueFromZero("letter(2, ", 1, 0, 0, 0, 0, 0, OUTSIDE);
        x.dueFromZero("letter(3, ", UNKNOWN, UNKNOWN, UNKNOWN, UNKNOWN, UNKNOWN, UNKNOWN, UNKNOWN);
        far(x, "letter(0, ?)", 0, 5, OUTSIDE);
        far(x, "letter(?, 0)", 0, 2, UNKNOWN);
        far(x, "letter(?, 6)", 0, 2, UNKNOWN);
        Run full = new Run(check);
        full.due("letter(0, 0): there is none", UNKNOWN);
        for (int i = 0; i < 12; i++) {
            full.does("send(0)");
        }
        full.dueFromZero("letter(11, ", 0, 0, 0, 0, 0, 0, OUTSIDE);
        full.due("letter(12, 0)", UNKNOWN);
        full.due("letter(-1, 0)", UNKNOWN);
        full.does("tick()");
        full.due("letter(0, 0): all are lost", UNKNOWN);
        full.due("letter(11, 0): all are lost", UNKNOWN);
    }

    private static void count() {
        check.promise(32, "count");
        Run x = busy();
        x.dueFromZero("count(", 4, 4, 11, 5, 3, 1, 0, 0, 1, 5, 3, OUTSIDE);
        x.due("count(-1)", OUTSIDE);
        far(x, "count(?)", 0, 10, OUTSIDE);
        Run posts = Run.of(check, "net 4;flow 0 0 3 1;post 0 1;old 0 0 1;old 0 1 3;new 0 0 2;new 0 1 3;new 0 2 3", LINKS);
        posts.does("send(0)");
        posts.does("send(0)");
        posts.does("tick()");
        posts.does("tick()");
        posts.dueFromZero("count(", 4, 4, 15, 6, 0, 2, 0, 0, 0);
        posts.does("force(0, 5)");
        posts.does("send(0)");
        posts.does("tick()");
        posts.does("tick()");
        posts.dueFromZero("count(", 4, 4, 15, 6, 0, 3, 1, 0, 0);
        posts.does("send(0)");
        posts.does("tick()");
        posts.does("link(2, 3, 0)");
        posts.does("tick()");
        posts.due("count(6): what is lost is not counted", 1);
        posts.due("count(8)", 1);
    }
}
