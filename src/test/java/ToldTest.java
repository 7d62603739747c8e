/** Promises 6 to 10: what is told of a net. */
public final class ToldTest {
    private static final int NONE = -1, UNKNOWN = -2, OUTSIDE = -3;
    private static final Check check = new Check();
    /** Flow 0 goes 0 1 3 or 0 2 3, flow 1 goes 0 1 2 and never comes to 3, flow 2 goes 1 2 1 in a ring. */
    private static final String NET = "net 5;link 0 1 4;link 1 3 4;link 0 2 4;link 2 3 4;link 1 2 9;link 2 1 9";
    private static final String FLOWS = "flow 0 0 3 2;flow 1 0 3 5;flow 2 1 3 7;old 0 0 1;old 0 1 3;new 0 0 2;new 0 1 3"
            + ";new 0 2 3;old 1 0 1;old 1 1 2;old 1 2 4;old 2 1 2;old 2 2 1;post 0 1";

    public static void main(String[] args) {
        room();
        load();
        flow();
        rule();
        table();
        check.end();
    }

    private static void room() {
        check.promise(6, "room");
        MixedRules x = Check.of("net 8;link 0 7 9;link 7 0 1");
        check.due("room(0, 7)", x.room(0, 7), 9);
        check.due("room(7, 0)", x.room(7, 0), 1);
        check.due("room(0, 1)", x.room(0, 1), 0);
        check.due("room(7, 7)", x.room(7, 7), 0);
        check.due("room(8, 0)", x.room(8, 0), UNKNOWN);
        check.due("room(0, 8)", x.room(0, 8), UNKNOWN);
        check.due("room(-1, 0)", x.room(-1, 0), UNKNOWN);
        check.due("room(0, -1)", x.room(0, -1), UNKNOWN);
        check.due("room(the least, the greatest)", x.room(Integer.MIN_VALUE, Integer.MAX_VALUE), UNKNOWN);
    }

    private static void load() {
        check.promise(7, "load");
        MixedRules x = Check.of(NET, FLOWS);
        check.due("load(0, 1)", x.load(0, 1), 7);
        check.due("load(1, 3)", x.load(1, 3), 2);
        check.due("load(1, 2): flows that do not arrive, too", x.load(1, 2), 12);
        check.due("load(2, 1): not to a node that was met", x.load(2, 1), 0);
        check.due("load(2, 4): no link", x.load(2, 4), 0);
        check.due("load(0, 0)", x.load(0, 0), 0);
        x.force(0, 1);
        check.due("load(0, 1) when turned", x.load(0, 1), 5);
        check.due("load(0, 2) when turned", x.load(0, 2), 2);
        check.due("load(2, 3) when turned", x.load(2, 3), 0);
        x.force(0, 4);
        check.due("load(2, 3) when all are turned", x.load(2, 3), 2);
        x.link(0, 1, 0);
        check.due("load(0, 1): the link is gone", x.load(0, 1), 0);
        check.due("load(1, 2): a flow comes no more", x.load(1, 2), 7);
        check.due("load(5, 0)", x.load(5, 0), UNKNOWN);
        check.due("load(0, 5)", x.load(0, 5), UNKNOWN);
        check.due("load(-1, 0)", x.load(-1, 0), UNKNOWN);
        check.due("load(0, -1)", x.load(0, -1), UNKNOWN);
    }

    private static void flow() {
        check.promise(8, "flow");
        MixedRules x = Check.of(NET, FLOWS);
        int[][] all = {{0, 3, 2, 1, 5, 0, 0, 0}, {0, 3, 5, NONE, 7, 0, 0, 0}, {1, 3, 7, NONE, 6, 0, 0, 0}};
        for (int k = 0; k < 3; k++) {
            for (int what = 0; what < 8; what++) {
                check.due("flow(" + k + ", " + what + ")", x.flow(k, what), all[k][what]);
            }
        }
        x.force(0, 4);
        x.force(0, 1);
        check.due("flow(0, 5)", x.flow(0, 5), 5);
        check.due("flow(0, 7)", x.flow(0, 7), 2);
        x.reverse(0);
        check.due("flow(0, 5) taken back", x.flow(0, 5), 4);
        check.due("flow(0, 7) taken back", x.flow(0, 7), 1);
        x.ready(1);
        check.due("flow(1, 6)", x.flow(1, 6), 1);
        x.flip(1);
        check.due("flow(1, 6) flipped", x.flow(1, 6), 2);
        check.due("flow(0, 8)", x.flow(0, 8), OUTSIDE);
        check.due("flow(0, -1)", x.flow(0, -1), OUTSIDE);
        check.due("flow(3, 0)", x.flow(3, 0), UNKNOWN);
        check.due("flow(-1, 0)", x.flow(-1, 0), UNKNOWN);
        check.due("flow(3, 8)", x.flow(3, 8), UNKNOWN);
    }

    private static void rule() {
        check.promise(9, "rule");
        MixedRules x = Check.of(NET, FLOWS);
        check.due("rule(0, 0, 0)", x.rule(0, 0, 0), 1);
        check.due("rule(0, 0, 1)", x.rule(0, 0, 1), 2);
        check.due("rule(0, 0, 2)", x.rule(0, 0, 2), 1);
        check.due("rule(0, 2, 0)", x.rule(0, 2, 0), NONE);
        check.due("rule(0, 2, 1)", x.rule(0, 2, 1), 3);
        check.due("rule(0, 2, 2)", x.rule(0, 2, 2), NONE);
        check.due("rule(0, 3, 0) of the goal", x.rule(0, 3, 0), NONE);
        x.force(0, 5);
        x.force(1, 1);
        check.due("rule(0, 0, 2) turned", x.rule(0, 0, 2), 2);
        check.due("rule(0, 1, 2): no mover", x.rule(0, 1, 2), 3);
        check.due("rule(0, 2, 2) turned", x.rule(0, 2, 2), 3);
        check.due("rule(1, 0, 2): turned to none", x.rule(1, 0, 2), NONE);
        check.due("rule(1, 1, 2)", x.rule(1, 1, 2), 2);
        check.due("rule(0, 0, 3)", x.rule(0, 0, 3), OUTSIDE);
        check.due("rule(0, 0, -1)", x.rule(0, 0, -1), OUTSIDE);
        check.due("rule(3, 0, 0)", x.rule(3, 0, 0), UNKNOWN);
        check.due("rule(-1, 0, 3)", x.rule(-1, 0, 3), UNKNOWN);
        check.due("rule(0, 5, 3)", x.rule(0, 5, 3), UNKNOWN);
        check.due("rule(0, -1, 0)", x.rule(0, -1, 0), UNKNOWN);
    }

    private static void table() {
        check.promise(10, "table");
        MixedRules x = Check.of(NET, FLOWS);
        int[] plain = {2, 3, 2, 0, 0};
        int[] ready = {3, 4, 3, 0, 0};
        for (int node = 0; node < 5; node++) {
            check.due("table(" + node + ")", x.table(node), plain[node]);
        }
        x.ready(0);
        x.ready(1);
        for (int node = 0; node < 5; node++) {
            check.due("table(" + node + ") when ready", x.table(node), ready[node]);
        }
        x.flip(0);
        check.due("table(2) when flipped", x.table(2), 3);
        x.finish(0);
        check.due("table(2) when finished: by new", x.table(2), 3);
        check.due("table(0) when finished", x.table(0), 2);
        x.cancel(1);
        x.force(1, 3);
        check.due("table(0): flow 1 has none by turned", x.table(0), 1);
        check.due("table(5)", x.table(5), UNKNOWN);
        check.due("table(-1)", x.table(-1), UNKNOWN);
    }
}
