import java.util.ArrayList;
import java.util.Collections;
import java.util.List;
import java.util.Random;

/**
 * Runs of chosen calls, each answer held against the Model's; the seeds are fixed, so that all runs are alike. The
 * document leaves free what an object answers after its 512th call, so that no run goes on behind that.
 */
public final class ModelTest {
    private static final int RUNS = 2000, TEXTS = 6000, CALLS_MOST = 512, TOLD_MOST = 400, STEP_MOST = 30;
    private static final String SIGNS = "netlikfowpsd0123456789;;   \t\nNAZ`{/:\u00e9\u00ff\u0000";
    private final Check check;
    private final Random random;
    private final MixedRules x = new MixedRules();
    private final Model y = new Model();
    private final StringBuilder story = new StringBuilder();
    private boolean strayed;
    private int calls;

    private ModelTest(Check check, long seed) {
        this.check = check;
        this.random = new Random(seed);
    }

    public static void main(String[] args) {
        Check check = new Check();
        for (int seed = 0; seed < RUNS; seed++) {
            new ModelTest(check, seed).run();
        }
        for (int seed = 0; seed < TEXTS; seed++) {
            new ModelTest(check, 1000000 + seed).readFaultyText();
        }
        check.end();
    }

    private void due(String call, int got, int want) {
        calls++;
        if (calls > CALLS_MOST) {
            throw new IllegalStateException("a run of more than " + CALLS_MOST + " calls: " + story);
        }
        story.append(call).append(" = ").append(want).append("; ");
        if (got != want && !strayed) {
            strayed = true;
            System.out.println("in this run: " + story);
            check.due(call, got, want);
        } else if (!strayed) {
            check.due(call, got, want);
        }
    }

    private int upTo(int bound) {
        return random.nextInt(bound);
    }

    private boolean once(int in) {
        return random.nextInt(in) == 0;
    }

    private void run() {
        tellNet();
        while (calls + STEP_MOST <= CALLS_MOST && !strayed) {
            act();
            askWhatIsFound();
            if (once(4)) {
                askWhatIsTold(STEP_MOST / 2);
            }
        }
    }

    private void tell(String text) {
        for (int i = 0; i < text.length(); i++) {
            due("write(" + (int) text.charAt(i) + ")", x.write(text.charAt(i)), y.write(text.charAt(i)));
        }
        due("fault()", x.fault(), y.fault());
        due("rules()", x.rules(), y.rules());
        if (y.count(9) > 0) {
            due("erase()", x.erase(), y.erase());
        }
    }

    private void tellNet() {
        int nodes = 2 + upTo(7);
        tell("net " + nodes);
        for (int flow = 0; flow < 3; flow++) {
            if (!once(5) && calls < TOLD_MOST / 2) {
                tellFlow(flow, nodes);
            }
        }
        int absent = 2 + upTo(20);
        int least = once(2) ? 1 : 6;
        for (int from = 0; from < nodes; from++) {
            for (int to = 0; to < nodes; to++) {
                if (from != to && !once(absent) && calls < CALLS_MOST) {
                    int c = least + upTo(10 - least);
                    due("link(" + from + ", " + to + ", " + c + ")", x.link(from, to, c), y.link(from, to, c));
                }
            }
        }
    }

    private void tellFlow(int flow, int nodes) {
        int source = upTo(nodes);
        int goal = (source + 1 + upTo(nodes - 1)) % nodes;
        String shape = "flow" + flow + " " + source + " " + goal + " " + (1 + upTo(once(2) ? 9 : 3));
        int post = upTo(nodes);
        if (post != source && post != goal && once(3)) {
            shape += ";post" + flow + " " + post;
        }
        tell(shape);
        tell(way("old", flow, source, goal, nodes));
        tell(way("new", flow, source, goal, nodes));
    }

    private String way(String word, int flow, int source, int goal, int nodes) {
        List<Integer> between = new ArrayList<>();
        for (int node = 0; node < nodes; node++) {
            if (node != source && node != goal) {
                between.add(node);
            }
        }
        Collections.shuffle(between, random);
        int met = upTo(between.size() + 1);
        List<String> clauses = new ArrayList<>();
        int at = source;
        for (int i = 0; i < met; i++) {
            clauses.add(word + flow + " " + at + " " + between.get(i));
            at = between.get(i);
        }
        clauses.add(word + flow + " " + at + " " + goal);
        for (int i = met; i < between.size(); i++) {
            int to = upTo(nodes);
            if (once(2) && to != between.get(i)) {
                clauses.add(word + flow + " " + between.get(i) + " " + to);
            }
        }
        return String.join(once(3) ? " ; " : ";", clauses);
    }

    private int someFlow() {
        return once(25) ? (once(2) ? -1 : 3) : upTo(3);
    }

    private int someNode() {
        return once(25) ? (once(2) ? -1 : y.nodes) : upTo(y.nodes);
    }

    private int someSet(int flow) {
        if (flow < 0 || flow > 2 || once(15)) {
            return once(3) ? random.nextInt() : upTo(300) - 20;
        }
        int movers = Model.movers(y.flows.get(flow));
        int rest = movers & ~y.flows.get(flow).turned;
        return (once(4) ? movers : rest) & (once(4) ? 255 : once(2) ? 1 << upTo(8) : random.nextInt());
    }

    private void act() {
        int k = someFlow();
        int set = someSet(k);
        switch (upTo(16)) {
            case 0: due("turn(" + k + ", " + set + ")", x.turn(k, set), y.turn(k, set)); break;
            case 1: due("force(" + k + ", " + set + ")", x.force(k, set), y.force(k, set)); break;
            case 2:
            case 3: due("advance(" + k + ")", x.advance(k), y.advance(k)); break;
            case 4: due("reverse(" + k + ")", x.reverse(k), y.reverse(k)); break;
            case 5: due("ready(" + k + ")", x.ready(k), y.ready(k)); break;
            case 6: due("flip(" + k + ")", x.flip(k), y.flip(k)); break;
            case 7: due("finish(" + k + ")", x.finish(k), y.finish(k)); break;
            case 8: due("cancel(" + k + ")", x.cancel(k), y.cancel(k)); break;
            case 9:
            case 10: due("send(" + k + ")", x.send(k), y.send(k)); break;
            case 11:
            case 12:
                if (once(2)) {
                    due("tick()", x.tick(), y.tick());
                }
                break;
            case 13: changeLink(); break;
            case 14: changeWanted(); break;
            default: changeSlots(); break;
        }
    }

    private void changeLink() {
        int from = someNode();
        int to = someNode();
        int c = upTo(12) - 1;
        due("link(" + from + ", " + to + ", " + c + ")", x.link(from, to, c), y.link(from, to, c));
    }

    private void changeWanted() {
        int set = once(3) ? upTo(18) - 1 : once(2) ? 15 : 7;
        due("want(" + set + ")", x.want(set), y.want(set));
    }

    private void changeSlots() {
        int n = once(3) ? upTo(8) : 6;
        due("slots(" + n + ")", x.slots(n), y.slots(n));
    }

    private void askWhatIsFound() {
        int k = someFlow();
        int set = someSet(k);
        int what = upTo(5) - 1;
        int from = someNode();
        int to = someNode();
        int other = someFlow();
        due("sound(" + k + ", " + set + ")", x.sound(k, set), y.sound(k, set));
        due("walk(" + k + ", " + set + ", " + what + ")", x.walk(k, set, what), y.walk(k, set, what));
        due("safe(" + k + ", " + set + ", " + what + ")", x.safe(k, set, what), y.safe(k, set, what));
        due("load(" + from + ", " + to + ")", x.load(from, to), y.load(from, to));
        due("room(" + from + ", " + to + ")", x.room(from, to), y.room(from, to));
        due("waits(" + k + ", " + other + ")", x.waits(k, other), y.waits(k, other));
        if (once(4)) {
            due("rounds(" + k + ")", x.rounds(k), y.rounds(k));
            due("plan(" + k + ", " + what + ")", x.plan(k, what), y.plan(k, what));
            int place = upTo(5) - 1;
            due("order(" + place + ")", x.order(place), y.order(place));
        }
    }

    private void askWhatIsTold(int times) {
        for (int i = 0; i < times; i++) {
            int k = someFlow();
            int node = someNode();
            switch (upTo(6)) {
                case 0: askCount(upTo(13) - 1); break;
                case 1:
                case 2: askLetter(upTo(once(5) ? 14 : y.count(4) + 1) - (once(9) ? 1 : 0), upTo(once(5) ? 7 : 6)); break;
                case 3: askFlow(k, upTo(10) - 1); break;
                case 4: askRule(k, node, upTo(5) - 1); break;
                default: due("table(" + node + ")", x.table(node), y.table(node)); break;
            }
        }
    }

    private void askCount(int what) {
        due("count(" + what + ")", x.count(what), y.count(what));
    }

    private void askLetter(int letter, int what) {
        due("letter(" + letter + ", " + what + ")", x.letter(letter, what), y.letter(letter, what));
    }

    private void askFlow(int k, int what) {
        due("flow(" + k + ", " + what + ")", x.flow(k, what), y.flow(k, what));
    }

    private void askRule(int k, int node, int what) {
        due("rule(" + k + ", " + node + ", " + what + ")", x.rule(k, node, what), y.rule(k, node, what));
    }

    /** All that there is of flows and rules: 75 questions at most. */
    private void askAllRules() {
        askCount(0);
        askCount(1);
        for (int k = 0; k < 3; k++) {
            for (int what = 0; what < 8; what++) {
                askFlow(k, what);
            }
            for (int node = 0; node < y.nodes; node++) {
                askRule(k, node, 0);
                askRule(k, node, 1);
            }
        }
    }

    private void readFaultyText() {
        StringBuilder text = new StringBuilder();
        int clauses = 1 + upTo(once(6) ? 40 : 9);
        for (int i = 0; i < clauses; i++) {
            text.append(i == 0 ? "" : once(3) ? " ;" : ";").append(clauses > 12 ? "net" + (2 + upTo(7)) : clause());
        }
        int changes = upTo(4);
        for (int i = 0; i < changes && text.length() > 0; i++) {
            int place = upTo(text.length());
            char sign = SIGNS.charAt(upTo(SIGNS.length()));
            switch (upTo(3)) {
                case 0: text.setCharAt(place, sign); break;
                case 1: text.insert(place, sign); break;
                default: text.deleteCharAt(place); break;
            }
        }
        tell(text.toString());
        askAllRules();
    }

    private String clause() {
        int k = upTo(3);
        int a = upTo(once(3) ? 9 : 2);
        int b = upTo(once(3) ? 9 : 4);
        int c = upTo(10);
        switch (upTo(7)) {
            case 0: return "net " + upTo(10);
            case 1: return "link " + a + " " + b + " " + c;
            case 2: return "flow " + k + " " + a + " " + b + " " + c;
            case 3: return "post " + k + " " + upTo(5);
            case 4: return "old " + k + " " + a + " " + b;
            case 5: return "new " + k + " " + a + " " + b;
            default: return "net" + (4 + upTo(5));
        }
    }
}
