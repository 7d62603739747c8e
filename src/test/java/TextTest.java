/** Promises 1 to 5: a new object, and THE TEXT. */
public final class TextTest {
    private static final int NONE = -1, OUTSIDE = -3, NOT = -4, FULL = -5;
    private static final Check check = new Check();

    public static void main(String[] args) {
        newObject();
        write();
        erase();
        faultInWordsAndEnds();
        faultInNumbers();
        faultByWhatStandsAhead();
        faultInCountOfClauses();
        faultByNetAsItIs();
        rulesDoTheirClauses();
        rulesStartAnew();
        rulesRefused();
        check.end();
    }

    private static void newObject() {
        check.promise(1, "a new object");
        Run x = new Run(check);
        int[] counts = {2, 0, 15, 6, 0, 0, 0, 0, 0, 0, 0};
        for (int what = 0; what < counts.length; what++) {
            x.due("count(" + what + ")", counts[what]);
        }
        int[] shape = {0, 1, 1, NONE, 0, 0, 0, 0};
        for (int k = 0; k < 3; k++) {
            for (int what = 0; what < shape.length; what++) {
                x.due("flow(" + k + ", " + what + ")", shape[what]);
            }
            for (int node = 0; node < 2; node++) {
                for (int what = 0; what < 3; what++) {
                    x.due("rule(" + k + ", " + node + ", " + what + ")", NONE);
                }
            }
        }
        x.due("room(0, 1)", 0);
        x.due("room(1, 0)", 0);
        check.due("the constants", MixedRules.NONE * 10000 + MixedRules.UNKNOWN * 1000 + MixedRules.OUTSIDE * 100
                + MixedRules.NOT * 10 + MixedRules.FULL, -12345);
        Run other = Run.of(check, "net 5;link 0 1 3");
        x.due("count(0) of the one beside it", 2);
        other.due("count(0) of the other", 5);
    }

    private static void write() {
        check.promise(2, "write");
        Run x = new Run(check);
        x.due("write(0)", 1);
        x.due("write(255)", 2);
        x.due("write(-1)", OUTSIDE);
        x.due("write(256)", OUTSIDE);
        x.due("write(" + Integer.MIN_VALUE + ")", OUTSIDE);
        for (int i = 3; i <= 200; i++) {
            x.due("write(32) as letter " + i, i);
        }
        x.due("write(32) when full", FULL);
        x.due("write(256) when full", OUTSIDE);
        x.due("count(9)", 200);
    }

    private static void erase() {
        check.promise(3, "erase");
        Run x = new Run(check);
        x.due("erase() of none", 0);
        x.write("net 3");
        x.due("erase()", 5);
        x.due("count(9)", 0);
        x.due("erase() again", 0);
        x.due("count(0): nothing was done", 2);
        x.write("a".repeat(200));
        x.due("erase() when full", 200);
        x.due("write(110) behind it", 1);
    }

    private static void fault(String text, int want) {
        Run x = new Run(check);
        faultOf(x, text, want);
    }

    private static void faultOf(Run x, String text, int want) {
        x.write(text);
        x.due("fault() of '" + text + "'", want);
        x.due("fault() of '" + text + "' again", want);
        x.due("erase() of '" + text + "'", text.length());
    }

    private static void faultInWordsAndEnds() {
        check.promise(4, "fault");
        fault("", 0);
        fault("   ", 3);
        fault("net 2", NONE);
        fault("net2", NONE);
        fault("  net   2  ", NONE);
        fault("net 2;net 3", NONE);
        fault("net2 ;net3", NONE);
        fault("ne", 0);
        fault("nett 2", 0);
        fault("met 2", 0);
        fault("neta 2", 0);
        fault("netz 2", 0);
        fault("net`2", 3);
        fault("net{2", 3);
        fault("net 2/", 5);
        fault("net 2:", 5);
        fault("Net 2", 0);
        fault("nEt 2", 0);
        fault("2", 0);
        fault(";", 0);
        fault(" ;net 2", 1);
        fault("net", 3);
        fault("net  ", 5);
        fault("net 2;", 6);
        fault("net 2 ; ", 8);
        fault("net 2;;net 2", 6);
        fault("net 2 net 3", 6);
        fault("net 2net 3", 5);
        fault("net 2 3", 6);
        fault("net 2,net 3", 5);
        fault("net x", 4);
        fault("net net", 4);
        fault("net ;", 4);
        fault("net -2", 4);
        fault("net\t2", 3);
        fault("net\n2", 3);
        fault("net 2\u00e9", 5);
        fault("net\u00e9 2", 3);
        fault("link 0 1", 8);
        fault("link 0 1;net 2", 8);
        fault("link 0 1 2 3", 11);
        fault("flow 0 0 1", 10);
        fault("post 0", 6);
        fault("old 0 0", 7);
        fault("new 0", 5);
        fault("rule 0 0 1", 0);
        fault("net 2.", 5);
    }

    private static void faultInNumbers() {
        fault("net 0", 4);
        fault("net 1", 4);
        fault("net 8", NONE);
        fault("net 9", 4);
        fault("net 02", 4);
        fault("net 22", 4);
        fault("link 0 1 0", NONE);
        fault("link 0 1 9", NONE);
        fault("link 0 1 10", 9);
        fault("link 2 1 1", 5);
        fault("link 0 2 1", 7);
        fault("link 1 1 1", 7);
        fault("link 01 1", 5);
        fault("flow 2 1 0 9", NONE);
        fault("flow 3 1 0 9", 5);
        fault("flow 0 2 0 9", 7);
        fault("flow 0 0 2 9", 9);
        fault("flow 0 1 1 9", 9);
        fault("flow 0 0 1 0", 11);
        fault("flow 0 0 1 12", 11);
        fault("net 3;post 0 2", NONE);
        fault("net 3;post 3 2", 11);
        fault("net 3;post 0 0", 13);
        fault("net 3;post 0 1", 13);
        fault("net 3;post 0 3", 13);
        fault("old 0 0 1", NONE);
        fault("old 3 0 1", 4);
        fault("old 0 1 0", 6);
        fault("old 0 2 0", 6);
        fault("old 0 0 0", 8);
        fault("old 0 0 2", 8);
        fault("new 2 0 1", NONE);
        fault("new 3 0 1", 4);
        fault("new 0 1 0", 6);
        fault("new 0 2 0", 6);
        fault("new 0 0 0", 8);
        fault("new 0 0 2", 8);
        fault("net 3;old 0 2 0", NONE);
    }

    private static void faultByWhatStandsAhead() {
        fault("net 8;link 6 7 1;net 7;link 6 7 1", 30);
        fault("net 4;flow 1 2 3 1;old 1 1 0;new 1 3 0", 35);
        fault("net 4;flow 1 2 3 1;post 1 2", 26);
        fault("net 4;flow 1 2 3 1;post 1 3", 26);
        fault("net 4;flow 1 2 3 1;post 1 0", NONE);
        fault("net 4;flow 1 2 3 1;post 0 2", NONE);
        fault("net 4;flow 1 2 3 1;net 4;post 1 2;post 1 0", 41);
        fault("net 4;flow 1 2 3 1;net 4;old 1 3 0;old 1 1 0", 41);
        fault("net 4;flow 0 2 3 1;net 4;old 0 3 0;post 0 2;post 0 0", 51);
    }

    private static void faultInCountOfClauses() {
        String clause = "net 2;";
        fault(clause.repeat(23) + "net 2", NONE);
        fault(clause.repeat(23) + "net 2 ", NONE);
        fault(clause.repeat(24) + "net 2", 143);
        fault(clause.repeat(24), 143);
        fault(clause.repeat(23) + "net 2  ;net 2", 145);
    }

    private static void faultByNetAsItIs() {
        Run x = Run.of(check, "net 6;flow 0 4 5 1");
        faultOf(x, "link 4 5 1", NONE);
        faultOf(x, "link 5 6 1", 7);
        faultOf(x, "old 0 5 1", 6);
        faultOf(x, "old 0 1 5", NONE);
        faultOf(x, "post 0 4", 7);
        faultOf(x, "post 0 1", NONE);
        faultOf(x, "net 3;post 0 4", 13);
        faultOf(x, "flow 0 2 3 1;post 0 2", 20);
        faultOf(x, "post 0 2;old 0 3 2", NONE);
        faultOf(x, "post 0 4", 7);
    }

    private static void rulesDoTheirClauses() {
        check.promise(5, "rules");
        Run x = new Run(check);
        x.write("net 4;link 0 1 5;link 1 0 7;link 0 1 6;flow 2 1 3 8;post 2 2;old 2 1 0;new 2 1 3;old 2 1 2");
        x.due("rules()", 9);
        x.due("count(9)", 0);
        x.due("count(0)", 4);
        x.due("count(1)", 2);
        x.due("room(0, 1): the later one", 6);
        x.due("room(1, 0)", 7);
        int[] shape = {1, 3, 8, 2, 2, 0, 0, 0};
        for (int what = 0; what < shape.length; what++) {
            x.due("flow(2, " + what + ")", shape[what]);
        }
        x.due("rule(2, 1, 0): the later one", 2);
        x.due("rule(2, 1, 1)", 3);
        x.due("rule(0, 1, 0): of another flow", NONE);
        x.write("link 0 1 0;flow 2 1 3 2");
        x.due("rules() again", 2);
        x.due("count(0) stays", 4);
        x.due("room(0, 1) is gone", 0);
        x.due("room(1, 0) stays", 7);
        x.due("flow(2, 2)", 2);
        x.due("flow(2, 3): no post", NONE);
        x.due("rule(2, 1, 0): no rules", NONE);
        x.due("rule(2, 1, 1): no rules", NONE);
        x.write("net2;".repeat(23) + "net2");
        x.due("rules() of 24", 24);
    }

    private static void rulesStartAnew() {
        Run x = Run.of(check, "net 4;flow 0 0 1 2;post 0 3;link 0 2 5;link 2 1 5;link 0 1 5;old 0 0 2;new 0 0 1;new 0 2 1");
        x.does("want(3)");
        x.does("slots(4)");
        x.does("send(0)");
        x.does("send(1)");
        x.does("tick()");
        x.does("force(0, 4)");
        x.does("send(0)");
        x.does("tick()");
        x.does("ready(1)");
        for (int what = 4; what <= 8; what++) {
            x.due("count(" + what + ") ahead", 1);
        }
        x.write("link 0 1 4");
        x.due("rules()", 1);
        x.due("rule(0, 2, 1) stays", 1);
        x.due("flow(0, 5)", 0);
        x.due("flow(0, 7)", 0);
        x.due("flow(1, 6)", 0);
        x.due("count(2)", 3);
        x.due("count(3)", 4);
        for (int what = 4; what <= 8; what++) {
            x.due("count(" + what + ")", 0);
        }
        x.due("send(0)", 1);
        x.due("letter(0, 4): no rounds are done", 0);
        x.write("net 3");
        x.due("rules() of a net", 1);
        x.due("room(0, 1)", 0);
        x.due("rule(0, 2, 1)", NONE);
        int[] shape = {0, 1, 1, NONE, 0, 0, 0, 0};
        for (int what = 0; what < shape.length; what++) {
            x.due("flow(0, " + what + ")", shape[what]);
        }
        x.due("count(2) stays", 3);
        x.due("count(3) stays", 4);
    }

    private static void rulesRefused() {
        Run x = Run.of(check, "net 3;link 0 1 4;old 0 0 1;new 0 0 2");
        x.does("force(0, 1)");
        x.does("send(0)");
        x.due("rules() of no text", NOT);
        x.write("net 8;link 0 1 5;link 0 0 1");
        x.due("rules() with a fault", NOT);
        x.due("count(9): the text stays", 27);
        x.does("erase()");
        x.write("net2;".repeat(25));
        x.due("rules() of 25", NOT);
    }
}
