import java.util.function.IntSupplier;

/** Counts answers that are not as due, and ends the program with 1 if there was one. */
final class Check {
    private int asked;
    private int wrong;
    private String promise = "";

    /** What follows is about this promise. */
    void promise(int number, String name) {
        promise = "promise " + number + " (" + name + "): ";
    }

    void due(String what, long got, long want) {
        asked++;
        if (got != want) {
            wrong++;
            System.out.println(promise + what + " answered " + got + ", due is " + want);
        }
    }

    /** A refused call: its answer is due, and all that the object tells is as it was. */
    void refused(String what, MixedRules x, IntSupplier call, int want) {
        String before = state(x);
        due(what, call.getAsInt(), want);
        same(what + " changed something, from and to:", before, state(x));
    }

    void same(String what, String got, String want) {
        asked++;
        if (!got.equals(want)) {
            wrong++;
            System.out.println(promise + what + "\n  " + got + "\n  " + want);
        }
    }

    void end() {
        System.out.println(asked + " answers, " + wrong + " of them not as due");
        if (wrong != 0 || asked == 0) {
            System.exit(1);
        }
    }

    static void write(MixedRules x, String text) {
        for (int i = 0; i < text.length(); i++) {
            x.write(text.charAt(i));
        }
    }

    /** A new object that has read these texts one behind the other. */
    static MixedRules of(String... texts) {
        MixedRules x = new MixedRules();
        for (String text : texts) {
            write(x, text);
            if (x.rules() < 0) {
                throw new IllegalStateException("a text of the test is not right: " + text);
            }
        }
        return x;
    }

    /** All that an object tells, found without changing it. */
    static String state(MixedRules x) {
        StringBuilder all = new StringBuilder();
        for (int what = 0; what <= 10; what++) {
            all.append(x.count(what)).append(' ');
        }
        int nodes = x.count(0);
        for (int from = 0; from < nodes; from++) {
            for (int to = 0; to < nodes; to++) {
                all.append(x.room(from, to)).append(' ').append(x.load(from, to)).append(' ');
            }
            all.append(x.table(from)).append(' ');
        }
        for (int flow = 0; flow < 3; flow++) {
            for (int what = 0; what <= 7; what++) {
                all.append(x.flow(flow, what)).append(' ');
            }
            for (int node = 0; node < nodes; node++) {
                for (int what = 0; what <= 2; what++) {
                    all.append(x.rule(flow, node, what)).append(' ');
                }
            }
        }
        for (int letter = 0; letter < x.count(4); letter++) {
            for (int what = 0; what <= 5; what++) {
                all.append(x.letter(letter, what)).append(' ');
            }
        }
        return all.append(x.fault()).toString();
    }
}
