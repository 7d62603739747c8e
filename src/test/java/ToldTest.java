/** Promises 6 to 10: what is told of a net. */
public final class ToldTest {
    private static final int NONE = -1, UNKNOWN = -2, OUTSIDE = -3;
    private static final Check check = new Check();
    /** Flow 0 goes 0 1 3 or 0 2 3, flow 1 goes 0 1 2 and never comes to 3, flow 2 goes 1 2 1 in a ring. */
    private static final String NET = "net 5;link 0 1 4;link 1 3 4;link 0 2 4;link 2 3 4;link 1 2 9;link 2 1 9";
    private static final String FLOWS = "flow 0 0 3 2;flow 1 0 3 5;flow 2 1 3 7;old 0 0 1;old 0 1 3;new 0 0 2;new 0 1 3"
            + ";new 0 2 3;old 1 0 1;old 1 1 2;old 1 2 4;old 2 1 2;old 2 2 1;post 0 1";

    public static void main(String[] args) {
        room();
        load();
        flow();
        rule();
        table();
        check.end();
    }

    private static void room() {
        check.promise(6, "room");
        Run x = Run.of(check, "net 8;link 0 7 9;link 7 0 1");
        x.due("room(0, 7)", 9);
        x.due("room(7, 0)", 1);
        x.due("room(0, 1)", 0);
        x.due("room(7, 7)", 0);
        x.due("room(8, 0)", UNKNOWN);
        x.due("room(0, 8)", UNKNOWN);
        x.due("room(-1, 0)", UNKNOWN);
        x.due("room(0, -1)", UNKNOWN);
        x.due("room(" + Integer.MIN_VALUE + ", " + Integer.MAX_VALUE + ")", UNKNOWN);
    }

    private static void load() {
        check.promise(7, "load");
        Run x = Run.of(check, NET, FLOWS);
        x.due("load(0, 1)", 7);
        x.due("load(1, 3)", 2);
        x.due("load(1, 2): flows that do not arrive, too", 12);
        x.due("load(2, 1): not to a node that was met", 0);
        x.due("load(2, 4): no link", 0);
        x.due("load(0, 0)", 0);
        x.does("force(0, 1)");
        x.due("load(0, 1) when turned", 5);
        x.due("load(0, 2) when turned", 2);
        x.due("load(2, 3) when turned", 0);
        x.does("force(0, 4)");
        x.due("load(2, 3) when all are turned", 2);
        x.does("link(0, 1, 0)");
        x.due("load(0, 1): the link is gone", 0);
        x.due("load(1, 2): a flow comes no more", 7);
        x.due("load(5, 0)", UNKNOWN);
        x.due("load(0, 5)", UNKNOWN);
        x.due("load(-1, 0)", UNKNOWN);
        x.due("load(0, -1)", UNKNOWN);
    }

    private static void flow() {
        check.promise(8, "flow");
        Run x = Run.of(check, NET, FLOWS);
        int[][] all = {{0, 3, 2, 1, 5, 0, 0, 0}, {0, 3, 5, NONE, 7, 0, 0, 0}, {1, 3, 7, NONE, 6, 0, 0, 0}};
        for (int k = 0; k < 3; k++) {
            for (int what = 0; what < 8; what++) {
                x.due("flow(" + k + ", " + what + ")", all[k][what]);
            }
        }
        x.does("force(0, 4)");
        x.does("force(0, 1)");
        x.due("flow(0, 5)", 5);
        x.due("flow(0, 7)", 2);
        x.does("reverse(0)");
        x.due("flow(0, 5) taken back", 4);
        x.due("flow(0, 7) taken back", 1);
        x.does("ready(1)");
        x.due("flow(1, 6)", 1);
        x.does("flip(1)");
        x.due("flow(1, 6) flipped", 2);
        x.due("flow(0, 8)", OUTSIDE);
        x.due("flow(0, -1)", OUTSIDE);
        x.due("flow(3, 0)", UNKNOWN);
        x.due("flow(-1, 0)", UNKNOWN);
        x.due("flow(3, 8)", UNKNOWN);
    }

    private static void rule() {
        check.promise(9, "rule");
        Run x = Run.of(check, NET, FLOWS);
        x.due("rule(0, 0, 0)", 1);
        x.due("rule(0, 0, 1)", 2);
        x.due("rule(0, 0, 2)", 1);
        x.due("rule(0, 2, 0)", NONE);
        x.due("rule(0, 2, 1)", 3);
        x.due("rule(0, 2, 2)", NONE);
        x.due("rule(0, 3, 0) of the goal", NONE);
        x.does("force(0, 5)");
        x.does("force(1, 1)");
        x.due("rule(0, 0, 2) turned", 2);
        x.due("rule(0, 1, 2): no mover", 3);
        x.due("rule(0, 2, 2) turned", 3);
        x.due("rule(1, 0, 2): turned to none", NONE);
        x.due("rule(1, 1, 2)", 2);
        x.due("rule(0, 0, 3)", OUTSIDE);
        x.due("rule(0, 0, -1)", OUTSIDE);
        x.due("rule(3, 0, 0)", UNKNOWN);
        x.due("rule(-1, 0, 3)", UNKNOWN);
        x.due("rule(0, 5, 3)", UNKNOWN);
        x.due("rule(0, -1, 0)", UNKNOWN);
    }

    private static void table() {
        check.promise(10, "table");
        Run x = Run.of(check, NET, FLOWS);
        int[] plain = {2, 3, 2, 0, 0};
        int[] ready = {3, 4, 3, 0, 0};
        for (int node = 0; node < 5; node++) {
            x.due("table(" + node + ")", plain[node]);
        }
        x.does("ready(0)");
        x.does("ready(1)");
        for (int node = 0; node < 5; node++) {
            x.due("table(" + node + ") when ready", ready[node]);
        }
        x.does("flip(0)");
        x.due("table(2) when flipped", 3);
        x.does("finish(0)");
        x.due("table(2) when finished: by new", 3);
        x.due("table(0) when finished", 2);
        x.does("cancel(1)");
        x.does("force(1, 3)");
        x.due("table(0): flow 1 has none by turned", 1);
        x.due("table(5)", UNKNOWN);
        x.due("table(-1)", UNKNOWN);
    }
}
