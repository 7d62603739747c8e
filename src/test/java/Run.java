import java.lang.reflect.InvocationTargetException;
import java.lang.reflect.Method;
import java.util.Arrays;
import java.util.HashMap;
import java.util.Map;
import java.util.regex.Matcher;
import java.util.regex.Pattern;

/**
 * A run of calls on one object. A twin does the same calls, but for those that are refused: at the end both must be
 * alike, so that a refused call that changed something is found. The document leaves free what an object answers
 * after its 512th call, so that a longer run is a fault of the test.
 */
final class Run {
    private static final int CALLS_MOST = 512;
    private static final Pattern CALL = Pattern.compile("(\\w+)\\(([^)]*)\\)");
    private static final Map<String, Method> METHODS = new HashMap<>();

    private final Check check;
    private final String about;
    private final MixedRules x = new MixedRules();
    private final MixedRules twin = new MixedRules();
    private int calls;

    Run(Check check) {
        this.check = check;
        about = check.about();
        check.keep(this);
    }

    /** A new run that has told these texts one behind the other. */
    static Run of(Check check, String... texts) {
        Run run = new Run(check);
        for (String text : texts) {
            run.tell(text);
        }
        return run;
    }

    String about() {
        return about;
    }

    int calls() {
        return calls;
    }

    /** The text is written, and its clauses are done. */
    void tell(String text) {
        write(text);
        due("rules()", text.split(";", -1).length);
    }

    void write(String text) {
        for (int i = 0; i < text.length(); i++) {
            does("write(" + (int) text.charAt(i) + ")");
        }
    }

    /** Links from each node to each other one. */
    void linkAll(int nodes, int room) {
        for (int from = 0; from < nodes; from++) {
            for (int to = 0; to < nodes; to++) {
                if (from != to) {
                    does("link(" + from + ", " + to + ", " + room + ")");
                }
            }
        }
    }

    /** A call that is not refused, whatever else it answers. */
    void does(String call) {
        int got = ask(x, call);
        ask(twin, call);
        if (isRefusal(call, got)) {
            check.due(call + ", a step of the test,", got, 0);
        }
    }

    /** A call's answer; words behind its bracket say why. */
    void due(String call, int want) {
        check.due(call, ask(x, call), want);
        if (!isRefusal(call, want)) {
            check.due(call + " (but for what was refused)", ask(twin, call), want);
        }
    }

    /** The answers of a call whose last number, not written, goes from 0 on. */
    void dueFromZero(String opening, int... wants) {
        for (int i = 0; i < wants.length; i++) {
            due(opening + i + ")", wants[i]);
        }
    }

    private static boolean isRefusal(String call, int answer) {
        return answer < MixedRules.NONE || answer == MixedRules.NONE && call.startsWith("advance(");
    }

    /** Compares what both tell, and what becomes of them by some calls more. */
    void end() {
        check.same("behind the run, with what was refused and without:", told(x), told(twin));
        check.same("some calls later, with what was refused and without:", sequel(x), sequel(twin));
        if (calls > CALLS_MOST) {
            throw new IllegalStateException(about + "a run of " + calls + " calls");
        }
    }

    private String told(MixedRules of) {
        StringBuilder all = new StringBuilder();
        for (int what = 0; what <= 10; what++) {
            all.append(ask(of, "count(" + what + ")")).append(' ');
        }
        int nodes = ask(of, "count(0)");
        for (int from = 0; from < nodes; from++) {
            for (int to = 0; to < nodes; to++) {
                all.append(from == to ? 0 : ask(of, "room(" + from + "," + to + ")")).append(' ');
            }
        }
        for (int flow = 0; flow < 3; flow++) {
            for (int what = 0; what <= 7; what++) {
                all.append(ask(of, "flow(" + flow + "," + what + ")")).append(' ');
            }
            for (int node = 0; node < nodes; node++) {
                all.append(ask(of, "rule(" + flow + "," + node + ",0)")).append(' ');
                all.append(ask(of, "rule(" + flow + "," + node + ",1)")).append(' ');
            }
        }
        return all.append(letters(of)).append(ask(of, "fault()")).toString();
    }

    private String letters(MixedRules of) {
        StringBuilder all = new StringBuilder();
        int underWay = ask(of, "count(4)");
        for (int letter = 0; letter < underWay; letter++) {
            for (int what = 0; what <= 5; what++) {
                all.append(ask(of, "letter(" + letter + "," + what + ")")).append(' ');
            }
        }
        return all.toString();
    }

    /** What lies deeper: where letters go on, which rounds are taken back, what clauses the text has. */
    private String sequel(MixedRules of) {
        StringBuilder all = new StringBuilder();
        for (int i = 0; i < 2; i++) {
            all.append(ask(of, "tick()")).append(' ');
            for (int flow = 0; flow < 3; flow++) {
                all.append(ask(of, "reverse(" + flow + ")")).append(' ');
            }
        }
        for (int what = 4; what <= 8; what++) {
            all.append(ask(of, "count(" + what + ")")).append(' ');
        }
        return all.append(ask(of, "rules()")).append(' ').append(ask(of, "count(0)")).toString();
    }

    private int ask(MixedRules of, String call) {
        Matcher m = CALL.matcher(call);
        if (!m.lookingAt()) {
            throw new IllegalStateException("no call: " + call);
        }
        calls += of == x ? 1 : 0;
        String[] words = m.group(2).isBlank() ? new String[0] : m.group(2).split(",");
        Object[] numbers = new Object[words.length];
        for (int i = 0; i < words.length; i++) {
            numbers[i] = Integer.parseInt(words[i].trim());
        }
        try {
            return (int) method(m.group(1), numbers.length).invoke(of, numbers);
        } catch (IllegalAccessException | InvocationTargetException e) {
            throw new IllegalStateException(call, e);
        }
    }

    private static Method method(String name, int numbers) {
        return METHODS.computeIfAbsent(name + numbers, key -> {
            Class<?>[] types = new Class<?>[numbers];
            Arrays.fill(types, int.class);
            try {
                return MixedRules.class.getMethod(name, types);
            } catch (NoSuchMethodException e) {
                throw new IllegalStateException(key, e);
            }
        });
    }
}
