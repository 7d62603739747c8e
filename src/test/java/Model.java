import java.util.ArrayDeque;
import java.util.ArrayList;
import java.util.Deque;
import java.util.HashMap;
import java.util.List;
import java.util.Map;
import java.util.regex.Matcher;
import java.util.regex.Pattern;

/** The document once more, written for plainness alone and by other means than the class, to be held against it. */
final class Model {
    static final int NONE = -1, UNKNOWN = -2, OUTSIDE = -3, NOT = -4, FULL = -5;
    private static final Pattern TOKEN = Pattern.compile("[a-z]+|[0-9]+|[^ ]", Pattern.DOTALL);
    private static final String[] CLAUSES = {"net N", "link U V C", "flow K S T Z", "post K P", "old K R V", "new K R V"};

    static final class F {
        int source = 0, goal = 1, size = 1, post = NONE, phase = 0, turned = 0;
        Map<Integer, Integer> old = new HashMap<>();
        Map<Integer, Integer> young = new HashMap<>();
        Deque<Integer> back = new ArrayDeque<>();
    }

    static final class L {
        F flow;
        int number;
        boolean stamped;
        int stale;
        List<Integer> nodes = new ArrayList<>();
        List<String> ways = new ArrayList<>();

        int at() {
            return nodes.get(nodes.size() - 1);
        }

        boolean mixed() {
            return ways.contains("old") && ways.contains("new");
        }
    }

    int nodes = 2, wanted = 15, slots = 6;
    Map<String, Integer> links = new HashMap<>();
    List<F> flows = new ArrayList<>(List.of(new F(), new F(), new F()));
    List<L> letters = new ArrayList<>();
    int there, unposted, mixed, lost;
    String text = "";

    // ---- the text

    int write(int letter) {
        if (letter < 0 || letter > 255) return OUTSIDE;
        if (text.length() == 200) return FULL;
        text += (char) letter;
        return text.length();
    }

    int erase() {
        int had = text.length();
        text = "";
        return had;
    }

    /** The fault, or NONE; what the clauses do is done to a net of its own, which is the answer where there is none. */
    private int read(Model to) {
        Matcher m = TOKEN.matcher(text);
        List<String> tokens = new ArrayList<>();
        List<Integer> places = new ArrayList<>();
        while (m.find()) {
            tokens.add(m.group());
            places.add(m.start());
        }
        tokens.add("");
        places.add(text.length());
        int i = 0;
        for (int done = 1; ; done++) {
            String form = null;
            for (String clause : CLAUSES) {
                if (clause.split(" ")[0].equals(tokens.get(i))) form = clause;
            }
            if (form == null) return places.get(i);
            String[] parts = form.split(" ");
            Map<Character, Integer> got = new HashMap<>();
            for (int p = 1; p < parts.length; p++) {
                String token = tokens.get(i + p);
                if (token.length() != 1 || !Character.isDigit(token.charAt(0)) || token.charAt(0) > '9') return places.get(i + p);
                got.put(parts[p].charAt(0), token.charAt(0) - '0');
                if (!to.allows(parts[p].charAt(0), got)) return places.get(i + p);
            }
            to.perform(parts[0], got);
            to.clauses = done;
            i += parts.length;
            if (tokens.get(i).isEmpty()) return NONE;
            if (!tokens.get(i).equals(";") || done == 24) return places.get(i);
            i++;
        }
    }

    int clauses;

    private boolean allows(char name, Map<Character, Integer> got) {
        int x = got.get(name);
        F f = got.containsKey('K') && got.get('K') <= 2 ? flows.get(got.get('K')) : null;
        switch (name) {
            case 'N': return x >= 2 && x <= 8;
            case 'C': return true;
            case 'Z': return x >= 1;
            case 'K': return x <= 2;
            case 'U':
            case 'S': return x < nodes;
            case 'T': return x < nodes && x != got.get('S');
            case 'P': return x < nodes && x != f.source && x != f.goal;
            case 'R': return x < nodes && x != f.goal;
            default: return x < nodes && !Integer.valueOf(x).equals(got.get('U')) && !Integer.valueOf(x).equals(got.get('R'));
        }
    }

    private void perform(String name, Map<Character, Integer> got) {
        switch (name) {
            case "net":
                nodes = got.get('N');
                links = new HashMap<>();
                flows = new ArrayList<>(List.of(new F(), new F(), new F()));
                break;
            case "link":
                links.put(got.get('U') + ">" + got.get('V'), got.get('C'));
                break;
            case "flow":
                F f = new F();
                f.source = got.get('S');
                f.goal = got.get('T');
                f.size = got.get('Z');
                flows.set(got.get('K'), f);
                break;
            case "post":
                flows.get(got.get('K')).post = got.get('P');
                break;
            case "old":
                flows.get(got.get('K')).old.put(got.get('R'), got.get('V'));
                break;
            default:
                flows.get(got.get('K')).young.put(got.get('R'), got.get('V'));
                break;
        }
    }

    private Model copyOfNet() {
        Model copy = new Model();
        copy.nodes = nodes;
        copy.links = new HashMap<>(links);
        for (int k = 0; k < 3; k++) {
            F from = flows.get(k);
            F to = copy.flows.get(k);
            to.source = from.source;
            to.goal = from.goal;
            to.size = from.size;
            to.post = from.post;
            to.old.putAll(from.old);
            to.young.putAll(from.young);
        }
        return copy;
    }

    int fault() {
        return read(copyOfNet());
    }

    int rules() {
        Model then = copyOfNet();
        if (read(then) != NONE) return NOT;
        nodes = then.nodes;
        links = then.links;
        flows = then.flows;
        letters.clear();
        there = 0;
        unposted = 0;
        mixed = 0;
        lost = 0;
        text = "";
        return then.clauses;
    }

    // ---- what a walk is

    private boolean noFlow(int k) {
        return k < 0 || k > 2;
    }

    private boolean noNode(int u) {
        return u < 0 || u >= nodes;
    }

    int roomOf(int u, int v) {
        return links.getOrDefault(u + ">" + v, 0);
    }

    static int movers(F f) {
        int set = 0;
        for (int u = 0; u < 8; u++) {
            Integer a = f.old.get(u);
            Integer b = f.young.get(u);
            if (a == null ? b != null : !a.equals(b)) set += 1 << u;
        }
        return set;
    }

    static int ruleBy(F f, int u, int set) {
        Map<Integer, Integer> by = (set >> u) % 2 == 1 ? f.young : f.old;
        return by.getOrDefault(u, NONE);
    }

    List<Integer> path(F f, int set) {
        List<Integer> met = new ArrayList<>();
        met.add(f.source);
        while (true) {
            int at = met.get(met.size() - 1);
            int to = ruleBy(f, at, set);
            if (at == f.goal || to == NONE || roomOf(at, to) == 0 || met.contains(to)) return met;
            met.add(to);
        }
    }

    boolean along(F f, int set, int u, int v) {
        List<Integer> met = path(f, set);
        for (int i = 0; i + 1 < met.size(); i++) {
            if (met.get(i) == u && met.get(i + 1) == v) return true;
        }
        return false;
    }

    int holds(F f, int set, F without, List<F> moved) {
        List<Integer> met = path(f, set);
        int bits = 0;
        if (met.contains(f.goal)) bits += 1;
        boolean ring = false;
        for (int u = 0; u < nodes; u++) {
            int at = u;
            for (int step = 0; step < 30 && at != NONE; step++) {
                at = ruleBy(f, at, set);
                if (at == u) ring = true;
            }
        }
        if (!ring) bits += 2;
        if (f.post == NONE || met.contains(f.post)) bits += 4;
        boolean room = true;
        for (int i = 0; i + 1 < met.size(); i++) {
            int sum = f.size;
            for (F g : flows) {
                int by = moved.contains(g) ? movers(g) : g.turned;
                if (g != f && g != without && along(g, by, met.get(i), met.get(i + 1))) sum += g.size;
            }
            if (sum > roomOf(met.get(i), met.get(i + 1))) room = false;
        }
        if (room) bits += 8;
        return bits;
    }

    boolean soundBy(F f, int set, List<F> moved) {
        return (holds(f, set, null, moved) & wanted) == wanted;
    }

    boolean isRound(F f, int set) {
        return set > 0 && set < 256 && (set | movers(f)) == movers(f) && (set & f.turned) == 0;
    }

    int leastUnsound(F f, int from, int round, List<F> moved) {
        for (int set = 0; set < 256; set++) {
            if ((set & from) == from && (set | from | round) == (from | round) && !soundBy(f, set, moved)) return set;
        }
        return NONE;
    }

    /** The plan with no more than so many rounds, tried from the greatest round down; null, if there is none. */
    private List<Integer> planWithin(int movers, int from, int most, List<Integer> unsound) {
        if (from == movers) return new ArrayList<>();
        if (most == 0) return null;
        for (int round = movers; round > 0; round--) {
            if ((round | movers) != movers || (round & from) != 0) continue;
            int all = from | round;
            if (unsound.stream().anyMatch(set -> (set & from) == from && (set | all) == all)) continue;
            List<Integer> rest = planWithin(movers, all, most - 1, unsound);
            if (rest != null) {
                rest.add(0, round);
                return rest;
            }
        }
        return null;
    }

    List<Integer> planOf(F f, List<F> moved) {
        List<Integer> unsound = new ArrayList<>();
        for (int set = 0; set < 256; set++) {
            if ((set | movers(f)) == movers(f) && !soundBy(f, set, moved)) unsound.add(set);
        }
        for (int most = 0; most <= 7; most++) {
            List<Integer> found = planWithin(movers(f), f.turned, most, unsound);
            if (found != null) return found;
        }
        return null;
    }

    // ---- what is told

    int room(int u, int v) {
        return noNode(u) || noNode(v) ? UNKNOWN : roomOf(u, v);
    }

    int load(int u, int v) {
        if (noNode(u) || noNode(v)) return UNKNOWN;
        int sum = 0;
        for (F f : flows) {
            if (along(f, f.turned, u, v)) sum += f.size;
        }
        return sum;
    }

    int flow(int k, int what) {
        if (noFlow(k)) return UNKNOWN;
        if (what < 0 || what > 7) return OUTSIDE;
        F f = flows.get(k);
        return new int[] {f.source, f.goal, f.size, f.post, movers(f), f.turned, f.phase, f.back.size()}[what];
    }

    int rule(int k, int u, int what) {
        if (noFlow(k) || noNode(u)) return UNKNOWN;
        if (what < 0 || what > 2) return OUTSIDE;
        F f = flows.get(k);
        return ruleBy(f, u, new int[] {0, 255, f.turned}[what]);
    }

    int table(int u) {
        if (noNode(u)) return UNKNOWN;
        int lines = 0;
        for (F f : flows) {
            if (ruleBy(f, u, f.turned) != NONE) lines++;
            if (f.phase > 0 && f.young.containsKey(u)) lines++;
        }
        return lines;
    }

    int greatestTable() {
        int most = 0;
        for (int u = 0; u < nodes; u++) most = Math.max(most, table(u));
        return most;
    }

    // ---- what is done

    int link(int u, int v, int c) {
        if (noNode(u) || noNode(v) || u == v) return UNKNOWN;
        if (c < 0 || c > 9) return OUTSIDE;
        int was = roomOf(u, v);
        links.put(u + ">" + v, c);
        return was;
    }

    int want(int set) {
        if (set < 0 || set > 15) return OUTSIDE;
        int was = wanted;
        wanted = set;
        return was;
    }

    int slots(int n) {
        if (n < 1 || n > 6) return OUTSIDE;
        int was = slots;
        slots = n;
        return was;
    }

    private void done(F f) {
        for (L l : letters) {
            if (l.flow == f) l.stale++;
        }
    }

    private boolean stale(F f) {
        return letters.stream().anyMatch(l -> l.flow == f && l.stale > 0);
    }

    private int turnAnyway(F f, int set) {
        f.turned += set;
        f.back.push(set);
        done(f);
        return f.turned;
    }

    int turn(int k, int set) {
        if (noFlow(k)) return UNKNOWN;
        F f = flows.get(k);
        if (!isRound(f, set)) return OUTSIDE;
        if (f.phase != 0 || stale(f) || leastUnsound(f, f.turned, set, List.of()) != NONE) return NOT;
        return turnAnyway(f, set);
    }

    int force(int k, int set) {
        if (noFlow(k)) return UNKNOWN;
        F f = flows.get(k);
        if (!isRound(f, set)) return OUTSIDE;
        return f.phase != 0 ? NOT : turnAnyway(f, set);
    }

    int advance(int k) {
        if (noFlow(k)) return UNKNOWN;
        F f = flows.get(k);
        if (f.phase != 0 || stale(f) || f.turned == movers(f)) return NOT;
        List<Integer> plan = planOf(f, List.of());
        if (plan == null) return NONE;
        turnAnyway(f, plan.get(0));
        return plan.get(0);
    }

    int reverse(int k) {
        if (noFlow(k)) return UNKNOWN;
        F f = flows.get(k);
        if (f.phase != 0 || f.back.isEmpty()) return NOT;
        f.turned -= f.back.pop();
        done(f);
        return f.turned;
    }

    int ready(int k) {
        if (noFlow(k)) return UNKNOWN;
        F f = flows.get(k);
        if (f.phase != 0 || f.turned != 0) return NOT;
        f.phase = 1;
        if (greatestTable() <= slots) return greatestTable();
        f.phase = 0;
        return FULL;
    }

    int flip(int k) {
        if (noFlow(k)) return UNKNOWN;
        F f = flows.get(k);
        if (f.phase != 1) return NOT;
        f.phase = 2;
        return (int) letters.stream().filter(l -> l.flow == f).count();
    }

    int finish(int k) {
        if (noFlow(k)) return UNKNOWN;
        F f = flows.get(k);
        if (f.phase != 2 || letters.stream().anyMatch(l -> l.flow == f && !l.stamped)) return NOT;
        f.turned = movers(f);
        f.phase = 0;
        f.back.clear();
        return f.turned;
    }

    int cancel(int k) {
        if (noFlow(k)) return UNKNOWN;
        F f = flows.get(k);
        if (f.phase == 0 || letters.stream().anyMatch(l -> l.flow == f && l.stamped)) return NOT;
        int was = f.phase;
        f.phase = 0;
        return was;
    }

    int send(int k) {
        if (noFlow(k)) return UNKNOWN;
        if (letters.size() == 12) return FULL;
        L l = new L();
        l.number = k;
        l.flow = flows.get(k);
        l.stamped = l.flow.phase == 2;
        l.nodes.add(l.flow.source);
        letters.add(l);
        return letters.size();
    }

    int tick() {
        int arrived = 0;
        List<L> still = new ArrayList<>();
        for (L l : letters) {
            F f = l.flow;
            int u = l.at();
            boolean byNew = l.stamped || (f.turned >> u) % 2 == 1;
            int v = ruleBy(f, u, byNew ? 255 : 0);
            if (v == NONE || roomOf(u, v) == 0) {
                lost++;
                continue;
            }
            l.nodes.add(v);
            if ((movers(f) >> u) % 2 == 1) l.ways.add(byNew ? "new" : "old");
            if (v == f.goal) {
                arrived++;
                there++;
                if (f.post != NONE && !l.nodes.contains(f.post)) unposted++;
                if (l.mixed()) mixed++;
            } else if (l.nodes.size() == 21) {
                lost++;
            } else {
                still.add(l);
            }
        }
        letters = still;
        return arrived;
    }

    // ---- what is found

    int sound(int k, int set) {
        if (noFlow(k)) return UNKNOWN;
        F f = flows.get(k);
        if ((set | movers(f)) != movers(f)) return OUTSIDE;
        return holds(f, set, null, List.of());
    }

    int walk(int k, int set, int what) {
        if (noFlow(k)) return UNKNOWN;
        F f = flows.get(k);
        if ((set | movers(f)) != movers(f) || what < 0 || what > 2) return OUTSIDE;
        List<Integer> met = path(f, set);
        int bits = 0;
        for (int u : met) bits += 1 << u;
        return new int[] {bits, met.size(), met.get(met.size() - 1)}[what];
    }

    int safe(int k, int set, int what) {
        if (noFlow(k)) return UNKNOWN;
        F f = flows.get(k);
        if (!isRound(f, set) || what < 0 || what > 2) return OUTSIDE;
        int bad = leastUnsound(f, f.turned, set, List.of());
        if (what == 0) return bad == NONE ? 1 : 0;
        if (what == 1 || bad == NONE) return bad;
        for (int i = 0; ; i++) {
            if ((wanted >> i) % 2 == 1 && (holds(f, bad, null, List.of()) >> i) % 2 == 0) return i;
        }
    }

    int plan(int k, int i) {
        if (noFlow(k)) return UNKNOWN;
        List<Integer> plan = planOf(flows.get(k), List.of());
        if (plan == null) return NOT;
        return i < 0 || i >= plan.size() ? OUTSIDE : plan.get(i);
    }

    int rounds(int k) {
        if (noFlow(k)) return UNKNOWN;
        List<Integer> plan = planOf(flows.get(k), List.of());
        return plan == null ? NONE : plan.size();
    }

    int order(int k) {
        if (k < 0 || k > 2) return OUTSIDE;
        for (int a = 0; a < 3; a++) {
            for (int b = 0; b < 3; b++) {
                int c = 3 - a - b;
                if (a == b || c == a || c == b) continue;
                F fa = flows.get(a);
                F fb = flows.get(b);
                F fc = flows.get(c);
                boolean can = planOf(fa, List.of()) != null && planOf(fb, List.of(fa)) != null
                        && planOf(fc, List.of(fa, fb)) != null;
                if (can) return new int[] {a, b, c}[k];
            }
        }
        return NONE;
    }

    int waits(int k, int other) {
        if (noFlow(k) || noFlow(other)) return UNKNOWN;
        F f = flows.get(k);
        int with = holds(f, movers(f), null, List.of());
        int without = holds(f, movers(f), flows.get(other), List.of());
        return with % 2 == 1 && with < 8 && without >= 8 ? 1 : 0;
    }

    int letter(int i, int what) {
        if (i < 0 || i >= letters.size()) return UNKNOWN;
        if (what < 0 || what > 5) return OUTSIDE;
        L l = letters.get(i);
        return new int[] {l.number, l.at(), l.nodes.size() - 1, l.stamped ? 1 : 0, l.stale, l.mixed() ? 1 : 0}[what];
    }

    int count(int what) {
        if (what < 0 || what > 10) return OUTSIDE;
        int lines = (int) links.values().stream().filter(c -> c > 0).count();
        return new int[] {nodes, lines, wanted, slots, letters.size(), there, unposted, mixed, lost, text.length(),
            greatestTable()}[what];
    }
}
