/** The sentences about THE TEXT that name a boundary: a test for each, named by its words. */
public final class EdgeTextTest {
    private static final int NONE = -1, UNKNOWN = -2, OUTSIDE = -3, NOT = -4, FULL = -5;
    private static final int CALLS_TILL_NEXT = 280;
    private static final Check check = new Check();
    /** What faults are looked for beside: 8 nodes, and flow 1 goes from 2 to 5. */
    private static final String NET = "net 8;flow 1 2 5 1";
    private static Run current;
    private static String told;

    public static void main(String[] args) {
        lettersOfTheText();
        readingAFullText();
        clausesBetween();
        clausesAtMost();
        words();
        numbersOfNet();
        netAsAtFirst();
        numbersOfLink();
        linkOfNoRoom();
        numbersOfFlow();
        flowWithoutPostAndRules();
        numbersOfPost();
        numbersOfOldAndNew();
        oneDigitEach();
        nodesByThen();
        goalsByThen();
        whatThereWasStays();
        eachLetterAsToken();
        blanks();
        faultAtTheFirstToken();
        faultAtTheEnd();
        clausesInTheirOrder();
        behindThem();
        check.end();
    }

    /** Texts that follow are read beside what these told. */
    private static void beside(String texts) {
        told = texts;
        current = null;
    }

    private static void fault(String text, int want) {
        if (current == null || current.calls() + text.length() > CALLS_TILL_NEXT) {
            current = told.isEmpty() ? new Run(check) : Run.of(check, told);
        }
        current.write(text);
        current.due("fault() of '" + text + "'", want);
        current.due("erase() of '" + text + "'", text.length());
    }

    /** At this place of a clause just these digits are right. */
    private static void digits(String ahead, String behind, String right) {
        digitsUnlike('?', ahead, behind, right);
    }

    /** The one that the next number is not to be like is right here, too: it is there that the fault is. */
    private static void digitsUnlike(char next, String ahead, String behind, String right) {
        for (char digit = '0'; digit <= '9'; digit++) {
            int place = digit == next ? ahead.length() + 2 : ahead.length();
            fault(ahead + digit + behind, right.indexOf(digit) >= 0 ? NONE : place);
        }
        for (String wrong : new String[] {right.charAt(0) + "0", "0" + right.charAt(0), "00", "10", "x", "-" + right.charAt(0),
            ";", "?"}) {
            fault(ahead + wrong + behind, ahead.length());
        }
        fault(ahead, ahead.length());
    }

    private static void lettersOfTheText() {
        check.sentence("THE TEXT is a row of letters, 200 at most");
        Run x = new Run(check);
        x.due("count(9) at first", 0);
        x.due("erase() at first", 0);
        for (int i = 1; i <= 199; i++) {
            x.does("write(32)");
        }
        x.due("count(9)", 199);
        x.due("write(255): the 200th", 200);
        x.due("write(32): one more", FULL);
        x.due("write(-1): one more, and no letter", OUTSIDE);
        x.due("write(256): one more, and no letter", OUTSIDE);
        x.due("count(9)", 200);
        x.due("fault()", 199);
        x.due("erase()", 200);
        x.due("write(32)", 1);
    }

    private static void readingAFullText() {
        check.sentence("THE TEXT is a row of letters, 200 at most");
        Run fine = new Run(check);
        fine.write("net" + " ".repeat(196) + "8");
        fine.due("write(57): it is full", FULL);
        fine.due("fault()", NONE);
        fine.due("rules()", 1);
        fine.due("count(0)", 8);
        fine.due("count(9)", 0);
        Run soon = new Run(check);
        soon.write("net" + " ".repeat(197));
        soon.due("write(56): it is full", FULL);
        soon.due("fault(): it ends too soon", 200);
        soon.due("rules()", NOT);
        soon.due("count(9)", 200);
        Run last = new Run(check);
        last.write("net 8" + " ".repeat(194) + "x");
        last.due("fault(): the last letter", 199);
        last.due("rules()", NOT);
        Run row = new Run(check);
        row.write("n".repeat(200));
        row.due("fault(): one token", 0);
        Run cut = new Run(check);
        cut.write("net 8" + ";link 0 1 1".repeat(16) + ";link 0 1");
        cut.due("write(32): it is not full", 191);
        cut.write("2;new 0 0");
        cut.due("write(49)", FULL);
        cut.due("fault(): cut off", 200);
    }

    private static void clausesBetween() {
        check.sentence("CLAUSES with ; between");
        beside("");
        fault("net 2", NONE);
        fault("net 2;net 3", NONE);
        fault(";", 0);
        fault(";net 2", 0);
        fault("net 2;", 6);
        fault("net 2; ", 7);
        fault("net 2;;net 3", 6);
        fault("net 2 net 3", 6);
        fault("net 2,net 3", 5);
        fault("net 2:net 3", 5);
        fault("net 2.net 3", 5);
        fault("net 2.", 5);
    }

    private static void clausesAtMost() {
        check.sentence("24 at most");
        beside("");
        String[] texts = {"net2;".repeat(22) + "net2", "net2;".repeat(23) + "net2"};
        for (int i = 0; i < texts.length; i++) {
            fault(texts[i], NONE);
            Run x = new Run(check);
            x.write(texts[i]);
            x.due("rules() of '" + texts[i] + "'", 23 + i);
        }
        fault("net2;".repeat(23) + "net2 ", NONE);
        fault("net2;".repeat(23) + "net2;", 119);
        fault("net2;".repeat(24) + "net2", 119);
        fault("net2;".repeat(24) + "net9", 119);
        fault("net2;".repeat(23) + "net9;net2", 118);
        fault("net2;".repeat(22) + "net2;;", 115);
        fault("net2;".repeat(30) + "net2", 119);
        Run x = new Run(check);
        x.write("net3;".repeat(24) + "net3");
        x.due("rules() of 25", NOT);
        x.due("count(0)", 2);
        x.due("count(9)", 124);
    }

    private static void words() {
        check.sentence("each is one of: net N. link U V C. flow K S T Z. post K U. old K U V. new K U V.");
        beside(NET);
        String[] clauses = {"net 8", "link 0 1 1", "flow 0 0 1 1", "post 0 2", "old 0 0 1", "new 0 0 1"};
        for (String clause : clauses) {
            String word = clause.substring(0, clause.indexOf(' '));
            String numbers = clause.substring(word.length());
            fault(clause, NONE);
            fault(word.substring(0, word.length() - 1) + numbers, 0);
            fault(word.substring(1) + numbers, 0);
            fault(word + "s" + numbers, 0);
            fault("a" + word + numbers, 0);
            fault(word.toUpperCase() + numbers, 0);
            fault(numbers, 1);
            fault(word, word.length());
            fault(clause + " 1", clause.length() + 1);
            fault(clause + " a", clause.length() + 1);
            fault(clause + " " + word, clause.length() + 1);
            fault(clause.substring(0, clause.length() - 1), clause.length() - 1);
        }
        fault("end 1", 0);
        fault("rule 0 0 1", 0);
        fault("mold 0 0 1", 0);
        fault("mew 0 0 1", 0);
        fault("nex 0 0 1", 0);
        fault("nep 2", 0);
    }

    private static void numbersOfNet() {
        check.sentence("net: N NODES (2 to 8)");
        beside("");
        digits("net ", "", "2345678");
        beside(NET);
        digits("net ", ";net 2", "2345678");
    }

    private static void netAsAtFirst() {
        check.sentence("all else as at first, but SLOTS, WANTED");
        Run x = Run.of(check, "net 4;flow 0 3 2 9;post 0 1;flow 2 0 1 5;old 0 3 2;new 0 0 2;link 3 2 1;old 2 0 1;link 0 1 9");
        x.does("want(3)");
        x.does("slots(2)");
        x.does("send(0)");
        x.does("tick()");
        x.does("send(1)");
        x.does("tick()");
        x.does("send(2)");
        x.does("force(0, 1)");
        x.does("ready(2)");
        x.tell("net 4");
        int[] counts = {4, 0, 3, 2, 0, 0, 0, 0, 0, 0, 0};
        x.dueFromZero("count(", counts);
        for (int k = 0; k <= 2; k++) {
            x.dueFromZero("flow(" + k + ", ", 0, 1, 1, NONE, 0, 0, 0, 0);
            for (int node = 0; node < 4; node++) {
                x.dueFromZero("rule(" + k + ", " + node + ", ", NONE, NONE, NONE);
            }
        }
        x.due("room(3, 2)", 0);
        x.due("load(3, 2)", 0);
        x.due("reverse(0)", NOT);
        x.tell("net 2");
        x.due("count(0): fewer", 2);
        x.due("table(2)", UNKNOWN);
        x.tell("net 4");
        x.due("room(3, 2): it does not come back", 0);
    }

    private static void numbersOfLink() {
        check.sentence("link: from U to V (unlike), ROOM C (0 to 9)");
        beside("");
        digitsUnlike('1', "link ", " 1 1", "0");
        digitsUnlike('0', "link ", " 0 1", "1");
        digits("link 0 ", " 1", "1");
        digits("link 1 ", " 1", "0");
        digits("link 0 1 ", "", "0123456789");
        beside("net 5");
        digitsUnlike('2', "link ", " 2 1", "0134");
        digits("link 2 ", " 1", "0134");
        beside(NET);
        digitsUnlike('7', "link ", " 7 9", "0123456");
        digits("link 7 ", " 0", "0123456");
        digits("link 7 6 ", ";net 2", "0123456789");
    }

    private static void linkOfNoRoom() {
        check.sentence("ROOM C (0 to 9)");
        Run x = Run.of(check, "net 8;link 7 0 9;link 0 7 1");
        x.due("room(7, 0)", 9);
        x.due("room(0, 7)", 1);
        x.due("count(1)", 2);
        x.tell("link 7 0 0");
        x.due("room(7, 0): there is none", 0);
        x.due("room(0, 7): it stays", 1);
        x.due("count(1)", 1);
    }

    private static void numbersOfFlow() {
        check.sentence("flow: FLOW K has SOURCE S, GOAL T (unlike), SIZE Z");
        beside("");
        digits("flow ", " 0 1 1", "012");
        digitsUnlike('1', "flow 0 ", " 1 1", "0");
        digits("flow 0 0 ", " 1", "1");
        digits("flow 0 1 ", " 1", "0");
        digits("flow 0 0 1 ", "", "123456789");
        beside(NET);
        digits("flow ", " 7 0 9", "012");
        digitsUnlike('7', "flow 1 ", " 7 1", "0123456");
        digits("flow 1 7 ", " 1", "0123456");
        digits("flow 2 3 ", " 9", "0124567");
        digits("flow 2 3 7 ", ";net 2", "123456789");
    }

    private static void flowWithoutPostAndRules() {
        check.sentence("no POST, no rules");
        Run x = Run.of(check, "net 4;flow 0 0 3 4;post 0 1;old 0 0 1;new 0 0 2;old 0 1 3;post 1 2;old 1 0 2;link 0 1 7");
        x.does("force(0, 1)");
        x.tell("flow 0 0 3 4");
        x.dueFromZero("flow(0, ", 0, 3, 4, NONE, 0, 0, 0, 0);
        for (int node = 0; node < 4; node++) {
            x.dueFromZero("rule(0, " + node + ", ", NONE, NONE, NONE);
        }
        x.due("flow(1, 3): another one's stays", 2);
        x.due("rule(1, 0, 0): another one's stays", 2);
        x.due("room(0, 1): links stay", 7);
        x.tell("flow 1 2 1 1");
        x.due("flow(1, 3): its source could not be its post", NONE);
        x.dueFromZero("rule(1, 0, ", NONE, NONE, NONE);
    }

    private static void numbersOfPost() {
        check.sentence("post: POST of FLOW K is U (neither its SOURCE nor its GOAL)");
        beside("net 3");
        digits("post ", " 2", "012");
        digits("post 0 ", "", "2");
        beside(NET);
        digits("post ", " 3", "012");
        digits("post 1 ", "", "013467");
        digits("post 0 ", "", "234567");
        beside("");
        for (char digit = '0'; digit <= '9'; digit++) {
            fault("post 0 " + digit, 7);
        }
        Run x = Run.of(check, "net 5;post 0 4;post 0 2;post 2 3");
        x.due("flow(0, 3): the later one", 2);
        x.due("flow(1, 3)", NONE);
        x.due("flow(2, 3)", 3);
    }

    private static void numbersOfOldAndNew() {
        check.sentence("old, new: at U (not its GOAL) the OLD, NEW rule of FLOW K is V (unlike U)");
        for (String word : new String[] {"old ", "new "}) {
            beside("");
            digits(word, " 0 1", "012");
            digits(word + "0 ", " 1", "0");
            digits(word + "0 0 ", "", "1");
            beside(NET);
            digits(word, " 0 1", "012");
            digitsUnlike('3', word + "1 ", " 3", "012467");
            digitsUnlike('3', word + "0 ", " 3", "024567");
            digits(word + "1 2 ", "", "0134567");
            digits(word + "1 7 ", ";net 2", "0123456");
        }
        Run x = Run.of(check, NET, "old 1 2 5;new 1 2 0;old 1 7 0;old 1 7 6");
        x.dueFromZero("rule(1, 2, ", 5, 0, 5);
        x.dueFromZero("rule(1, 7, ", 6, NONE, 6);
        x.dueFromZero("rule(0, 2, ", NONE, NONE, NONE);
    }

    private static void oneDigitEach() {
        check.sentence("numbers are one digit each");
        beside(NET);
        fault("net 08", 4);
        fault("net 8 0", 6);
        fault("link 1 2 3", NONE);
        fault("link 12 3", 5);
        fault("link 1 23", 7);
        fault("link 1 2 33", 9);
        fault("link 00 1 1", 5);
        fault("link 0 01 1", 7);
        fault("link 0 1 01", 9);
        fault("flow 0 0 1 01", 11);
        fault("flow 00 0 1 1", 5);
        fault("post 0 02", 7);
        fault("old 0 00 1", 6);
        fault("new 0 0 000000000000000000000001", 8);
        fault("net 4294967298", 4);
        fault("link 0 1 4294967297", 9);
    }

    private static void nodesByThen() {
        check.sentence("NODES as there are by then");
        beside("");
        fault("link 6 7 1", 5);
        fault("net 8;link 6 7 1", NONE);
        fault("link 6 7 1;net 8", 5);
        fault("net 8;link 6 7 1;net 7;link 5 6 1", NONE);
        fault("net 8;link 6 7 1;net 7;link 6 7 1", 30);
        fault("net 3;old 0 2 0;net 2;old 0 2 0", 28);
        fault("net 3;flow 0 2 0 1;net 2;flow 0 2 0 1", 32);
        fault("net 3;post 0 2;net 2;post 0 2", 28);
        Run x = Run.of(check, "net 3");
        x.write("net 8;link 7 7 1");
        x.due("rules(): the net is not told", NOT);
        x.does("erase()");
        x.write("link 2 3 1");
        x.due("fault(): three nodes yet", 7);
    }

    private static void goalsByThen() {
        check.sentence("(neither its SOURCE nor its GOAL)");
        beside("net 5;flow 0 2 3 1");
        fault("old 0 1 0", NONE);
        fault("old 0 3 0", 6);
        fault("flow 0 2 4 1;old 0 3 0;new 0 3 0;post 0 3", NONE);
        fault("flow 0 2 4 1;old 0 4 0", 19);
        fault("flow 0 2 4 1;new 0 4 0", 19);
        fault("flow 0 2 4 1;post 0 4", 20);
        fault("flow 0 4 2 1;post 0 4", 20);
        fault("flow 0 4 2 1;post 0 3", NONE);
        fault("net 5;old 0 3 0;post 0 2", NONE);
        fault("net 5;old 0 1 0", 12);
        fault("net 5;post 0 0", 13);
        fault("net 5;post 0 1", 13);
        fault("flow 1 2 4 1;old 0 4 0;old 0 3 0", 29);
        fault("post 1 2;post 1 3;post 2 4;old 2 3 1;old 2 1 3", 43);
    }

    private static void whatThereWasStays() {
        check.sentence("What there was stays");
        Run x = Run.of(check, "net 6;flow 1 2 3 4;post 1 5;old 1 2 5;new 1 2 4;link 2 5 6;link 5 3 7");
        x.does("want(5)");
        x.does("slots(4)");
        x.tell("link 0 1 1");
        x.dueFromZero("count(", 6, 3, 5, 4);
        x.dueFromZero("flow(1, ", 2, 3, 4, 5, 4);
        x.dueFromZero("rule(1, 2, ", 5, 4, 5);
        x.due("room(2, 5)", 6);
        x.tell("new 1 2 3;flow 0 1 0 1");
        x.dueFromZero("rule(1, 2, ", 5, 3, 5);
        x.due("flow(1, 3)", 5);
        x.due("room(5, 3)", 7);
        x.due("count(1)", 3);
    }

    private static void eachLetterAsToken() {
        check.sentence("TOKENS: a row of small letters, a row of digits, any other letter but a blank");
        beside("");
        for (char letter = 0; letter <= 255; letter++) {
            boolean small = letter >= 'a' && letter <= 'z';
            boolean digit = letter >= '0' && letter <= '9';
            boolean blank = letter == ' ';
            fault(letter + "net 2", blank ? NONE : 0);
            fault("net" + letter + "2", blank ? NONE : small ? 0 : 3);
            fault("net 2" + letter, blank ? NONE : letter == ';' ? 6 : digit ? 4 : 5);
            fault("net 2;" + letter, blank ? 7 : 6);
        }
        fault("net3??", 4);
        fault("net 2\u00e9", 5);
    }

    private static void blanks() {
        check.sentence("blanks may stand ahead of, between and behind TOKENS, and need not, where TOKENS end without");
        beside("");
        fault("net2", NONE);
        fault(" net2", NONE);
        fault("net2 ", NONE);
        fault("  net   2   ", NONE);
        fault("net2;net3", NONE);
        fault("net2 ;net3", NONE);
        fault("net2; net3", NONE);
        fault(" net 2 ; net 3 ", NONE);
        fault("link0 1 1", NONE);
        fault("link0 1 1;flow2 0 1 9;old1 0 1;new1 0 1", NONE);
        fault("link01 1", 4);
        fault("link0 11", 6);
        fault("ne t 2", 0);
        fault("n et 2", 0);
        fault("net 2 2", 6);
        fault("", 0);
        fault(" ", 1);
        fault("     ", 5);
    }

    private static void faultAtTheFirstToken() {
        check.sentence("A FAULT is at the first TOKEN that cannot stand there (a number of more digits, out of its bounds,"
                + " V like U, T like S, also)");
        beside("net 3");
        fault("net 9;net 9", 4);
        fault("  net 33;xxx", 6);
        fault("link 3 3 1", 5);
        fault("link 1 1 10", 7);
        fault("old 0 2 2", 8);
        fault("new 0 2 2", 8);
        fault("old 0 1 1", 6);
        fault("flow 0 2 2 0", 9);
        fault("flow 3 3 3 0", 5);
        fault("post 3 0", 5);
        fault("link 0 1 5;link 0 x;link", 18);
        fault("link 0 1 5 ; old 0 0", 20);
        Run x = Run.of(check, "net 3");
        x.write("link 0 1 5;link 1 1 5");
        x.due("fault()", 18);
        x.due("fault() again", 18);
        x.due("rules()", NOT);
        x.due("room(0, 1): the clauses ahead are not done", 0);
        x.due("count(9): the text stays", 21);
        x.does("write(32)");
        x.due("fault(): it stays where it was", 18);
    }

    private static void faultAtTheEnd() {
        check.sentence("or at the end, if it comes too soon");
        beside(NET);
        String clause = "flow 0 0 1 1";
        int[] ends = {4, 6, 8, 10};
        for (int end : ends) {
            fault(clause.substring(0, end), end);
            fault(clause.substring(0, end) + "  ", end + 2);
        }
        for (String begun : new String[] {"net", "link", "link 0", "link 0 1", "post", "post 0", "old", "old 0", "old 0 0", "new",
            "new 0", "new 0 0", "net 3;", "net 3;old 0 0 1;"}) {
            fault(begun, begun.length());
            fault(" " + begun + " ", begun.length() + 2);
        }
        fault("", 0);
    }

    private static void clausesInTheirOrder() {
        check.sentence("CLAUSES are done in their order");
        Run x = new Run(check);
        x.tell("net 8;net 3;link 0 1 5;link 0 1 6;link 1 2 3;link 1 2 0;old 0 0 1;old 0 0 2;new 0 0 2;new 0 0 1;flow 1 2 0 9;flow 1 0 2 8");
        x.due("count(0)", 3);
        x.due("room(0, 1)", 6);
        x.due("room(1, 2)", 0);
        x.dueFromZero("rule(0, 0, ", 2, 1, 2);
        x.dueFromZero("flow(1, ", 0, 2, 8);
        x.tell("link 2 0 4;net 4;link 3 0 2");
        x.due("room(2, 0): gone by the net behind it", 0);
        x.due("room(3, 0)", 2);
        x.tell("old 0 0 3;post 0 2;flow 0 0 3 1;new 0 0 3");
        x.dueFromZero("rule(0, 0, ", NONE, 3, NONE);
        x.due("flow(0, 3): gone by the flow behind it", NONE);
    }

    private static void behindThem() {
        check.sentence("Behind them nothing is TURNED, no ROUNDS are done, all PHASES are 0, no LETTERS are under way, none were"
                + " THERE, LOST");
        Run x = Run.of(check, "net 4;flow 0 0 3 1;post 0 2;old 0 0 1;new 0 0 3;old 0 1 3;link 0 1 1;link 1 3 1;new 1 0 1;link 0 3 1");
        x.does("send(0)");
        x.does("tick()");
        x.does("force(0, 1)");
        x.does("tick()");
        x.does("send(0)");
        x.does("send(2)");
        x.does("tick()");
        x.does("send(0)");
        x.does("force(0, 2)");
        x.does("ready(1)");
        x.does("flip(1)");
        x.does("ready(2)");
        x.dueFromZero("count(", 4, 3, 15, 6, 1, 2, 2, 0, 1);
        x.tell("link 3 0 1");
        x.dueFromZero("count(", 4, 4, 15, 6, 0, 0, 0, 0, 0, 0, 1);
        for (int k = 0; k <= 2; k++) {
            x.due("flow(" + k + ", 5)", 0);
            x.due("flow(" + k + ", 6)", 0);
            x.due("flow(" + k + ", 7)", 0);
            x.due("reverse(" + k + ")", NOT);
        }
        x.due("letter(0, 0)", UNKNOWN);
        x.due("send(0)", 1);
        x.dueFromZero("letter(0, ", 0, 0, 0, 0, 0, 0);
        Run mixed = Run.of(check, "net 3;flow 0 0 2 1;old 0 0 1;old 0 1 2;new 0 0 2;link 0 1 1;link 1 2 1;new 0 1 0");
        mixed.does("send(0)");
        mixed.does("tick()");
        mixed.does("link(1, 0, 1)");
        mixed.does("force(0, 2)");
        mixed.does("tick()");
        mixed.does("tick()");
        mixed.does("reverse(0)");
        mixed.does("tick()");
        mixed.due("count(7)", 1);
        mixed.tell("link 2 0 1");
        mixed.due("count(7): none were there", 0);
    }
}
