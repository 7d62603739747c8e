/**
 * Rules changed under traffic: flows that go through a net by old and new rules of nodes, what holds by any
 * mixture of both, plans of safe rounds, letters on their way meanwhile, and a small text that tells all this.
 */
public final class MixedRules {
    public static final int NONE = -1, UNKNOWN = -2, OUTSIDE = -3, NOT = -4, FULL = -5;

    private static final int NODES_LEAST = 2, NODES_MOST = 8;
    private static final int FLOWS = 3;
    private static final int ROOM_MOST = 9;
    private static final int SIZE_LEAST = 1, SIZE_MOST = 9;
    private static final int SLOTS_LEAST = 1, SLOTS_MOST = 6;
    private static final int LETTERS_MOST = 12, HOPS_MOST = 20;
    private static final int TEXT_MOST = 200, CLAUSES_MOST = 24, SIGN_MOST = 255;

    /** A row over all LINKS has place from * NODES_MOST + to. */
    private static final int LINKS = NODES_MOST * NODES_MOST;
    private static final int SETS = 1 << NODES_MOST;

    private static final int ARRIVES = 1, RINGLESS = 2, POSTED = 4, ROOMY = 8;
    private static final int WANTS = 4, WANTED_ALL = 15;

    private static final int PLAIN = 0, READY = 1, FLIPPED = 2;

    private static final int UNDER_WAY = 0, THERE = 1, LOST = 2;

    private static final int WORD = 0, NUMBER = 1, OTHER = 2, END = 3;
    private static final int NET = 0, LINK = 1, FLOW = 2, POST = 3, OLD = 4, NEW = 5, KINDS = 6;
    /** A clause is kept as its kind and up to four numbers. */
    private static final int CLAUSE_WIDTH = 5;

    /** All orders of three flows, the one with the lower flow at the first unlike place ahead. */
    private static final int[] ORDERS = {0, 1, 2, 0, 2, 1, 1, 0, 2, 1, 2, 0, 2, 0, 1, 2, 1, 0};

    private final Net net;
    private final Judge judge;
    private final Planner planner;
    private final Mail mail;
    private final Reader reader;

    public MixedRules() {
        net = new Net();
        judge = new Judge(net);
        planner = new Planner(net, judge);
        mail = new Mail(net);
        reader = new Reader(net);
    }

    // ---- what is told

    public int write(int letter) {
        if (letter < 0 || letter > SIGN_MOST) {
            return OUTSIDE;
        }
        return reader.append(letter) ? reader.length : FULL;
    }

    public int erase() {
        int had = reader.length;
        reader.length = 0;
        return had;
    }

    public int fault() {
        return reader.findFault();
    }

    public int rules() {
        if (reader.findFault() != NONE) {
            return NOT;
        }
        reader.doClauses();
        net.calmFlows();
        mail.forgetAll();
        reader.length = 0;
        return reader.clauseCount;
    }

    public int room(int from, int to) {
        if (!net.isNode(from) || !net.isNode(to)) {
            return UNKNOWN;
        }
        return net.roomAt(from, to);
    }

    public int load(int from, int to) {
        if (!net.isNode(from) || !net.isNode(to)) {
            return UNKNOWN;
        }
        judge.weigh(0, 0);
        return judge.weightAt(from, to);
    }

    public int flow(int flow, int what) {
        Flow f = net.flowAt(flow);
        if (f == null) {
            return UNKNOWN;
        }
        switch (what) {
            case 0:
                return f.source;
            case 1:
                return f.goal;
            case 2:
                return f.size;
            case 3:
                return f.post;
            case 4:
                return f.movers();
            case 5:
                return f.turned;
            case 6:
                return f.phase;
            case 7:
                return f.roundCount;
            default:
                return OUTSIDE;
        }
    }

    public int rule(int flow, int node, int what) {
        Flow f = net.flowAt(flow);
        if (f == null || !net.isNode(node)) {
            return UNKNOWN;
        }
        switch (what) {
            case 0:
                return f.oldAt(node);
            case 1:
                return f.newAt(node);
            case 2:
                return f.ruleAt(node, f.turned);
            default:
                return OUTSIDE;
        }
    }

    public int table(int node) {
        return net.isNode(node) ? net.tableAt(node) : UNKNOWN;
    }

    // ---- what is done

    public int link(int from, int to, int c) {
        if (!net.isNode(from) || !net.isNode(to) || from == to) {
            return UNKNOWN;
        }
        if (c < 0 || c > ROOM_MOST) {
            return OUTSIDE;
        }
        int was = net.roomAt(from, to);
        net.setRoom(from, to, c);
        return was;
    }

    public int want(int set) {
        if (set < 0 || set > WANTED_ALL) {
            return OUTSIDE;
        }
        int was = net.wanted;
        net.wanted = set;
        return was;
    }

    public int slots(int n) {
        if (n < SLOTS_LEAST || n > SLOTS_MOST) {
            return OUTSIDE;
        }
        int was = net.slotCount;
        net.slotCount = n;
        return was;
    }

    public int turn(int flow, int set) {
        Flow f = net.flowAt(flow);
        if (f == null) {
            return UNKNOWN;
        }
        if (!f.isRound(set)) {
            return OUTSIDE;
        }
        if (f.phase != PLAIN || mail.hasStale(flow) || judge.firstUnsound(flow, set) != NONE) {
            return NOT;
        }
        f.turnRound(set);
        return f.turned;
    }

    public int force(int flow, int set) {
        Flow f = net.flowAt(flow);
        if (f == null) {
            return UNKNOWN;
        }
        if (!f.isRound(set)) {
            return OUTSIDE;
        }
        if (f.phase != PLAIN) {
            return NOT;
        }
        f.turnRound(set);
        return f.turned;
    }

    public int advance(int flow) {
        Flow f = net.flowAt(flow);
        if (f == null) {
            return UNKNOWN;
        }
        if (f.phase != PLAIN || mail.hasStale(flow) || f.turned == f.movers()) {
            return NOT;
        }
        if (!planner.findPlan(flow, 0)) {
            return NONE;
        }
        int round = planner.roundAt(0);
        f.turnRound(round);
        return round;
    }

    public int reverse(int flow) {
        Flow f = net.flowAt(flow);
        if (f == null) {
            return UNKNOWN;
        }
        if (f.phase != PLAIN || f.roundCount == 0) {
            return NOT;
        }
        f.takeBack();
        return f.turned;
    }

    public int ready(int flow) {
        Flow f = net.flowAt(flow);
        if (f == null) {
            return UNKNOWN;
        }
        if (f.phase != PLAIN || f.turned != 0) {
            return NOT;
        }
        f.phase = READY;
        int most = net.greatestTable();
        if (most > net.slotCount) {
            f.phase = PLAIN;
            return FULL;
        }
        return most;
    }

    public int flip(int flow) {
        Flow f = net.flowAt(flow);
        if (f == null) {
            return UNKNOWN;
        }
        if (f.phase != READY) {
            return NOT;
        }
        f.phase = FLIPPED;
        return mail.countOf(flow, true) + mail.countOf(flow, false);
    }

    public int finish(int flow) {
        Flow f = net.flowAt(flow);
        if (f == null) {
            return UNKNOWN;
        }
        if (f.phase != FLIPPED || mail.countOf(flow, false) > 0) {
            return NOT;
        }
        f.turned = f.movers();
        f.phase = PLAIN;
        f.roundCount = 0;
        return f.turned;
    }

    public int cancel(int flow) {
        Flow f = net.flowAt(flow);
        if (f == null) {
            return UNKNOWN;
        }
        if (f.phase == PLAIN || mail.countOf(flow, true) > 0) {
            return NOT;
        }
        int was = f.phase;
        f.phase = PLAIN;
        return was;
    }

    public int send(int flow) {
        if (net.flowAt(flow) == null) {
            return UNKNOWN;
        }
        return mail.post(flow) ? mail.underWay : FULL;
    }

    public int tick() {
        return mail.hopAll();
    }

    // ---- what is found

    public int sound(int flow, int set) {
        Flow f = net.flowAt(flow);
        if (f == null) {
            return UNKNOWN;
        }
        if (!f.areMovers(set)) {
            return OUTSIDE;
        }
        judge.weigh(1 << flow, 0);
        return judge.whatHolds(f, set);
    }

    public int walk(int flow, int set, int what) {
        Flow f = net.flowAt(flow);
        if (f == null) {
            return UNKNOWN;
        }
        if (!f.areMovers(set)) {
            return OUTSIDE;
        }
        Path path = judge.path;
        path.follow(net, f, set);
        switch (what) {
            case 0:
                return path.met;
            case 1:
                return Integer.bitCount(path.met);
            case 2:
                return path.end;
            default:
                return OUTSIDE;
        }
    }

    public int safe(int flow, int set, int what) {
        Flow f = net.flowAt(flow);
        if (f == null) {
            return UNKNOWN;
        }
        if (!f.isRound(set) || what < 0 || what > 2) {
            return OUTSIDE;
        }
        int unsound = judge.firstUnsound(flow, set);
        if (what == 0) {
            return unsound == NONE ? 1 : 0;
        }
        if (what == 1 || unsound == NONE) {
            return unsound;
        }
        return judge.firstMissing(f, unsound);
    }

    public int plan(int flow, int k) {
        if (net.flowAt(flow) == null) {
            return UNKNOWN;
        }
        if (!planner.findPlan(flow, 0)) {
            return NOT;
        }
        if (k < 0 || k >= planner.roundCount()) {
            return OUTSIDE;
        }
        return planner.roundAt(k);
    }

    public int rounds(int flow) {
        if (net.flowAt(flow) == null) {
            return UNKNOWN;
        }
        return planner.findPlan(flow, 0) ? planner.roundCount() : NONE;
    }

    public int order(int k) {
        if (k < 0 || k >= FLOWS) {
            return OUTSIDE;
        }
        for (int row = 0; row + FLOWS <= ORDERS.length; row += FLOWS) {
            int place = 0;
            int ahead = 0;
            while (place < FLOWS && planner.findPlan(ORDERS[row + place], ahead)) {
                ahead |= 1 << ORDERS[row + place];
                place++;
            }
            if (place == FLOWS) {
                return ORDERS[row + k];
            }
        }
        return NONE;
    }

    public int waits(int flow, int other) {
        Flow f = net.flowAt(flow);
        if (f == null || net.flowAt(other) == null) {
            return UNKNOWN;
        }
        int all = f.movers();
        judge.weigh(1 << flow, 0);
        int with = judge.whatHolds(f, all);
        judge.weigh(1 << flow | 1 << other, 0);
        int without = judge.whatHolds(f, all);
        boolean waiting = (with & ARRIVES) != 0 && (with & ROOMY) == 0 && (without & ROOMY) != 0;
        return waiting ? 1 : 0;
    }

    public int letter(int letter, int what) {
        Letter l = mail.letterAt(letter);
        if (l == null) {
            return UNKNOWN;
        }
        switch (what) {
            case 0:
                return l.flow;
            case 1:
                return l.node;
            case 2:
                return l.hops;
            case 3:
                return l.stamped ? 1 : 0;
            case 4:
                return mail.staleness(l);
            case 5:
                return l.isMixed() ? 1 : 0;
            default:
                return OUTSIDE;
        }
    }

    public int count(int what) {
        switch (what) {
            case 0:
                return net.nodes;
            case 1:
                return net.linkCount();
            case 2:
                return net.wanted;
            case 3:
                return net.slotCount;
            case 4:
                return mail.underWay;
            case 5:
                return mail.there;
            case 6:
                return mail.thereUnposted;
            case 7:
                return mail.thereMixed;
            case 8:
                return mail.lost;
            case 9:
                return reader.length;
            case 10:
                return net.greatestTable();
            default:
                return OUTSIDE;
        }
    }

    private static boolean isPlace(int place, int length) {
        return place >= 0 && place < length;
    }

    /** A FLOW: where it goes, its rules, and how far it has come in turning to the new ones. */
    private static final class Flow {
        int source, goal, size, post;
        final int[] oldRules, newRules;
        int turned, phase;
        /** The ROUNDS that can be taken back, the latest at the end. */
        final int[] rounds;
        int roundCount;
        /** All that were ever done, takings back among them: by this a LETTER is told to be STALE. */
        int roundsDone;

        Flow() {
            oldRules = new int[NODES_MOST];
            newRules = new int[NODES_MOST];
            rounds = new int[NODES_MOST];
            lay(0, 1, 1);
        }

        void lay(int from, int to, int weight) {
            source = from;
            goal = to;
            size = weight;
            post = NONE;
            for (int node = 0; node < NODES_MOST; node++) {
                oldRules[node] = NONE;
                newRules[node] = NONE;
            }
        }

        void calm() {
            turned = 0;
            phase = PLAIN;
            roundCount = 0;
            roundsDone = 0;
        }

        void setOld(int node, int next) {
            if (isPlace(node, oldRules.length)) {
                oldRules[node] = next;
            }
        }

        void setNew(int node, int next) {
            if (isPlace(node, newRules.length)) {
                newRules[node] = next;
            }
        }

        int oldAt(int node) {
            return isPlace(node, oldRules.length) ? oldRules[node] : NONE;
        }

        int newAt(int node) {
            return isPlace(node, newRules.length) ? newRules[node] : NONE;
        }

        int ruleAt(int node, int set) {
            if (!isPlace(node, NODES_MOST)) {
                return NONE;
            }
            return (set & 1 << node) != 0 ? newRules[node] : oldRules[node];
        }

        boolean isMover(int node) {
            return oldAt(node) != newAt(node);
        }

        int movers() {
            int found = 0;
            for (int node = 0; node < NODES_MOST; node++) {
                if (oldRules[node] != newRules[node]) {
                    found |= 1 << node;
                }
            }
            return found;
        }

        boolean areMovers(int set) {
            return (set & ~movers()) == 0;
        }

        boolean isRound(int set) {
            return set != 0 && areMovers(set) && (set & turned) == 0;
        }

        void turnRound(int set) {
            if (isPlace(roundCount, rounds.length)) {
                rounds[roundCount] = set;
                roundCount++;
                roundsDone++;
                turned |= set;
            }
        }

        void takeBack() {
            int latest = roundCount - 1;
            if (isPlace(latest, rounds.length)) {
                turned &= ~rounds[latest];
                roundCount = latest;
                roundsDone++;
            }
        }
    }

    /** NODES, LINKS and FLOWS. */
    private static final class Net {
        int nodes, wanted, slotCount;
        final int[] room;
        final Flow[] flows;

        Net() {
            wanted = WANTED_ALL;
            slotCount = SLOTS_MOST;
            nodes = NODES_LEAST;
            room = new int[LINKS];
            flows = new Flow[FLOWS];
            for (int k = 0; k < FLOWS; k++) {
                flows[k] = new Flow();
            }
        }

        /** Not WANTED, not SLOTS: these outlive a net. */
        void startAnew(int count) {
            nodes = count;
            for (int place = 0; place < LINKS; place++) {
                room[place] = 0;
            }
            for (int k = 0; k < FLOWS; k++) {
                flows[k].lay(0, 1, 1);
            }
        }

        void calmFlows() {
            for (int k = 0; k < FLOWS; k++) {
                flows[k].calm();
            }
        }

        boolean isNode(int node) {
            return node >= 0 && node < nodes && node < NODES_MOST;
        }

        /** Null, if there is no such FLOW. */
        Flow flowAt(int k) {
            return isPlace(k, flows.length) ? flows[k] : null;
        }

        int roomAt(int from, int to) {
            return isNode(from) && isNode(to) ? room[from * NODES_MOST + to] : 0;
        }

        void setRoom(int from, int to, int c) {
            if (isNode(from) && isNode(to)) {
                room[from * NODES_MOST + to] = c;
            }
        }

        int linkCount() {
            int found = 0;
            for (int place = 0; place < LINKS; place++) {
                if (room[place] > 0) {
                    found++;
                }
            }
            return found;
        }

        int tableAt(int node) {
            int lines = 0;
            for (int k = 0; k < FLOWS; k++) {
                Flow f = flows[k];
                if (f.ruleAt(node, f.turned) != NONE) {
                    lines++;
                }
                if (f.phase != PLAIN && f.newAt(node) != NONE) {
                    lines++;
                }
            }
            return lines;
        }

        int greatestTable() {
            int most = 0;
            for (int node = 0; node < nodes; node++) {
                most = Math.max(most, tableAt(node));
            }
            return most;
        }
    }

    /** The WALK that was followed last. */
    private static final class Path {
        int met, end;
        boolean arrives;
        /** To each NODE the one to which the WALK went on from it, or NONE. */
        final int[] next;

        Path() {
            next = new int[NODES_MOST];
        }

        void follow(Net net, Flow f, int set) {
            for (int node = 0; node < NODES_MOST; node++) {
                next[node] = NONE;
            }
            int at = f.source;
            met = 1 << at;
            for (int hop = 0; hop < NODES_MOST && net.isNode(at); hop++) {
                int to = f.ruleAt(at, set);
                if (net.roomAt(at, to) == 0 || (met & 1 << to) != 0) {
                    break;
                }
                next[at] = to;
                met |= 1 << to;
                at = to;
            }
            end = at;
            arrives = at == f.goal;
        }
    }

    /** Tells what holds of a FLOW by a SET, other FLOWS being as they were weighed last. */
    private static final class Judge {
        final Net net;
        final Path path;
        /** To each LINK the SIZES together of the FLOWS that were weighed. */
        final int[] weight;

        Judge(Net net) {
            this.net = net;
            path = new Path();
            weight = new int[LINKS];
        }

        /** Both are bits of FLOWS: those left out, and those taken as if all their MOVERS were TURNED. */
        void weigh(int absent, int moved) {
            for (int place = 0; place < LINKS; place++) {
                weight[place] = 0;
            }
            for (int k = 0; k < FLOWS; k++) {
                Flow f = net.flowAt(k);
                if (f != null && (absent & 1 << k) == 0) {
                    path.follow(net, f, (moved & 1 << k) != 0 ? f.movers() : f.turned);
                    addPath(f.size);
                }
            }
        }

        void addPath(int size) {
            for (int from = 0; from < NODES_MOST; from++) {
                int to = path.next[from];
                if (net.isNode(to)) {
                    weight[from * NODES_MOST + to] += size;
                }
            }
        }

        int weightAt(int from, int to) {
            return net.isNode(from) && net.isNode(to) ? weight[from * NODES_MOST + to] : 0;
        }

        int whatHolds(Flow f, int set) {
            path.follow(net, f, set);
            int holds = 0;
            if (path.arrives) {
                holds |= ARRIVES;
            }
            if (isRingless(f, set)) {
                holds |= RINGLESS;
            }
            if (f.post == NONE || (path.met & 1 << f.post) != 0) {
                holds |= POSTED;
            }
            if (pathHasRoom(f.size)) {
                holds |= ROOMY;
            }
            return holds;
        }

        boolean isRingless(Flow f, int set) {
            int fine = 0;
            for (int start = 0; start < NODES_MOST; start++) {
                int trail = 0;
                int at = start;
                for (int hop = 0; hop <= NODES_MOST && at != NONE && (fine & 1 << at) == 0; hop++) {
                    if ((trail & 1 << at) != 0) {
                        return false;
                    }
                    trail |= 1 << at;
                    at = f.ruleAt(at, set);
                }
                fine |= trail;
            }
            return true;
        }

        boolean pathHasRoom(int size) {
            for (int from = 0; from < NODES_MOST; from++) {
                int to = path.next[from];
                if (to != NONE && size + weightAt(from, to) > net.roomAt(from, to)) {
                    return false;
                }
            }
            return true;
        }

        /** The least SET by which a ROUND should be SOUND and is not, or NONE. */
        int firstUnsound(int flow, int round) {
            Flow f = net.flowAt(flow);
            if (f == null) {
                return NONE;
            }
            weigh(1 << flow, 0);
            int part = 0;
            for (int i = 0; i < SETS; i++) {
                if (firstMissing(f, f.turned | part) != NONE) {
                    return f.turned | part;
                }
                if (part == round) {
                    break;
                }
                part = part - round & round;
            }
            return NONE;
        }

        /** The least of 0 to 3 that is WANTED and does not hold, or NONE. */
        int firstMissing(Flow f, int set) {
            int missing = net.wanted & ~whatHolds(f, set);
            for (int bit = 0; bit < WANTS; bit++) {
                if ((missing & 1 << bit) != 0) {
                    return bit;
                }
            }
            return NONE;
        }
    }

    /** Finds the PLAN of a FLOW by going through all mixtures between TURNED and all MOVERS. */
    private static final class Planner {
        final Net net;
        final Judge judge;
        /** Of the FLOW for which a PLAN was sought last. */
        int turned, movers;
        /** To each SET whether the FLOW is SOUND by it. */
        final boolean[] isSound;
        /** To each SET the fewest ROUNDS from it to all MOVERS, or NONE, and the greatest that can be first. */
        final int[] fewest, first;
        /** To each ROUND from the SET at hand whether it is SAFE. */
        final boolean[] isSafe;

        Planner(Net net, Judge judge) {
            this.net = net;
            this.judge = judge;
            isSound = new boolean[SETS];
            isSafe = new boolean[SETS];
            fewest = new int[SETS];
            first = new int[SETS];
        }

        /** Whether there is a PLAN, if FLOWS moved (as bits) have all their MOVERS TURNED. */
        boolean findPlan(int flow, int moved) {
            Flow f = net.flowAt(flow);
            if (f == null) {
                return false;
            }
            turned = f.turned;
            movers = f.movers();
            judge.weigh(1 << flow, moved);
            int rest = movers & ~turned;
            int part = rest;
            // From all parts down to none: a ROUND leads to a greater SET, which is settled by then.
            for (int i = 0; i < SETS; i++) {
                settle(f, turned | part);
                if (part == 0) {
                    break;
                }
                part = part - 1 & rest;
            }
            return fewestFrom(turned) != NONE;
        }

        void settle(Flow f, int set) {
            if (!isPlace(set, SETS)) {
                return;
            }
            isSound[set] = (net.wanted & ~judge.whatHolds(f, set)) == 0;
            fewest[set] = set == movers ? 0 : NONE;
            first[set] = 0;
            if (isSound[set] && set != movers) {
                chooseFirstRound(set);
            }
        }

        void chooseFirstRound(int set) {
            int rest = movers & ~set & SETS - 1;
            isSafe[0] = true;
            int round = 0;
            for (int i = 1; i < SETS && round != rest; i++) {
                round = round - rest & rest;
                int then = set | round;
                isSafe[round] = isSound[then] && arePartsSafe(round);
                boolean leadsOn = isSafe[round] && fewest[then] != NONE;
                // Rounds come in rising order, so that of equals the last one is the greatest.
                if (leadsOn && (fewest[set] == NONE || fewest[then] + 1 <= fewest[set])) {
                    fewest[set] = fewest[then] + 1;
                    first[set] = round;
                }
            }
        }

        /** A ROUND's parts are itself, which is looked at elsewhere, and the parts of it less one NODE. */
        boolean arePartsSafe(int round) {
            for (int node = 0; node < NODES_MOST; node++) {
                if ((round & 1 << node) != 0 && !isSafe[round & ~(1 << node)]) {
                    return false;
                }
            }
            return true;
        }

        int fewestFrom(int set) {
            return isPlace(set, SETS) ? fewest[set] : NONE;
        }

        int roundCount() {
            return fewestFrom(turned);
        }

        int roundAt(int k) {
            int set = turned;
            for (int i = 0; i < k && i < NODES_MOST; i++) {
                set |= firstFrom(set);
            }
            return firstFrom(set);
        }

        int firstFrom(int set) {
            return isPlace(set, SETS) ? first[set] : 0;
        }
    }

    /** A LETTER of a FLOW. */
    private static final class Letter {
        int flow, node, hops, met;
        /** ROUNDS that its FLOW had done when it was sent. */
        int roundsThen;
        boolean stamped, wentByOld, wentByNew;

        boolean isMixed() {
            return wentByOld && wentByNew;
        }
    }

    /** LETTERS under way, and what became of the others. */
    private static final class Mail {
        final Net net;
        /** Those under way are ahead, in their order; behind them lie those that wait to be used again. */
        final Letter[] letters;
        int underWay, there, thereUnposted, thereMixed, lost;

        Mail(Net net) {
            this.net = net;
            letters = new Letter[LETTERS_MOST];
            for (int i = 0; i < LETTERS_MOST; i++) {
                letters[i] = new Letter();
            }
        }

        void forgetAll() {
            underWay = 0;
            there = 0;
            thereUnposted = 0;
            thereMixed = 0;
            lost = 0;
        }

        /** Null, if there is no such LETTER under way. */
        Letter letterAt(int i) {
            return i < underWay && isPlace(i, letters.length) ? letters[i] : null;
        }

        boolean post(int flow) {
            Flow f = net.flowAt(flow);
            if (f == null || !isPlace(underWay, letters.length)) {
                return false;
            }
            Letter l = letters[underWay];
            l.flow = flow;
            l.node = f.source;
            l.hops = 0;
            l.met = 1 << f.source;
            l.roundsThen = f.roundsDone;
            l.stamped = f.phase == FLIPPED;
            l.wentByOld = false;
            l.wentByNew = false;
            underWay++;
            return true;
        }

        int staleness(Letter l) {
            Flow f = net.flowAt(l.flow);
            return f == null ? 0 : f.roundsDone - l.roundsThen;
        }

        boolean hasStale(int flow) {
            for (int i = 0; i < underWay && i < LETTERS_MOST; i++) {
                if (letters[i].flow == flow && staleness(letters[i]) > 0) {
                    return true;
                }
            }
            return false;
        }

        int countOf(int flow, boolean stamped) {
            int found = 0;
            for (int i = 0; i < underWay && i < LETTERS_MOST; i++) {
                if (letters[i].flow == flow && letters[i].stamped == stamped) {
                    found++;
                }
            }
            return found;
        }

        int hopAll() {
            int kept = 0;
            int arrived = 0;
            for (int i = 0; i < underWay && i < LETTERS_MOST; i++) {
                Letter l = letters[i];
                int became = hop(l);
                if (became == UNDER_WAY) {
                    // The one that is gone takes the place of the one kept, to be used again.
                    letters[i] = letters[kept];
                    letters[kept] = l;
                    kept++;
                } else if (became == THERE) {
                    arrived++;
                    noteArrival(l);
                } else {
                    lost++;
                }
            }
            underWay = kept;
            return arrived;
        }

        int hop(Letter l) {
            Flow f = net.flowAt(l.flow);
            if (f == null) {
                return LOST;
            }
            boolean byNew = l.stamped || (f.turned & 1 << l.node) != 0;
            int to = byNew ? f.newAt(l.node) : f.oldAt(l.node);
            if (net.roomAt(l.node, to) == 0) {
                return LOST;
            }
            if (f.isMover(l.node)) {
                l.wentByOld |= !byNew;
                l.wentByNew |= byNew;
            }
            l.node = to;
            l.met |= 1 << to;
            l.hops++;
            if (to == f.goal) {
                return THERE;
            }
            return l.hops >= HOPS_MOST ? LOST : UNDER_WAY;
        }

        void noteArrival(Letter l) {
            there++;
            Flow f = net.flowAt(l.flow);
            if (f != null && f.post != NONE && (l.met & 1 << f.post) == 0) {
                thereUnposted++;
            }
            if (l.isMixed()) {
                thereMixed++;
            }
        }
    }

    /** THE TEXT, read to its first FAULT. */
    private static final class Reader {
        final Net net;
        final int[] letters;
        int length;
        int tokenKind, tokenStart, tokenEnd;
        /** The CLAUSES that were read, to be done when all are known to be without FAULT. */
        final int[] clauses;
        int clauseCount;
        /** NODES, SOURCES and GOALS as they will be by the CLAUSES read so far. */
        int nodes;
        final int[] sources, goals;

        Reader(Net net) {
            this.net = net;
            letters = new int[TEXT_MOST];
            clauses = new int[CLAUSES_MOST * CLAUSE_WIDTH];
            sources = new int[FLOWS];
            goals = new int[FLOWS];
        }

        boolean append(int letter) {
            if (!isPlace(length, letters.length)) {
                return false;
            }
            letters[length] = letter;
            length++;
            return true;
        }

        int findFault() {
            foreseeNet();
            clauseCount = 0;
            tokenEnd = 0;
            for (int i = 0; i < CLAUSES_MOST; i++) {
                nextToken();
                if (!readClause()) {
                    return tokenStart;
                }
                if (tokenKind == END) {
                    return NONE;
                }
                if (!isSemicolon()) {
                    return tokenStart;
                }
            }
            return tokenStart;
        }

        void foreseeNet() {
            nodes = net.nodes;
            for (int k = 0; k < FLOWS; k++) {
                Flow f = net.flowAt(k);
                if (f != null) {
                    sources[k] = f.source;
                    goals[k] = f.goal;
                }
            }
        }

        int letterAt(int place) {
            return place < length && isPlace(place, letters.length) ? letters[place] : NONE;
        }

        void nextToken() {
            tokenStart = tokenEnd;
            while (tokenStart < length && letterAt(tokenStart) == ' ') {
                tokenStart++;
            }
            tokenKind = kindOf(letterAt(tokenStart));
            tokenEnd = tokenStart;
            if (tokenKind == END) {
                return;
            }
            tokenEnd++;
            while (tokenKind != OTHER && tokenEnd < length && kindOf(letterAt(tokenEnd)) == tokenKind) {
                tokenEnd++;
            }
        }

        static int kindOf(int letter) {
            if (letter == NONE) {
                return END;
            }
            if (letter >= 'a' && letter <= 'z') {
                return WORD;
            }
            return letter >= '0' && letter <= '9' ? NUMBER : OTHER;
        }

        boolean isSemicolon() {
            return tokenKind == OTHER && letterAt(tokenStart) == ';';
        }

        /** False at a FAULT: then the token at hand is the one that cannot stand there. */
        boolean readClause() {
            int row = clauseCount * CLAUSE_WIDTH;
            int kind = clauseKind();
            if (kind == NONE || row + CLAUSE_WIDTH > clauses.length) {
                return false;
            }
            clauses[row] = kind;
            nextToken();
            int numbers = numbersOf(kind);
            for (int place = 1; place <= numbers && place < CLAUSE_WIDTH; place++) {
                if (tokenKind != NUMBER || tokenEnd - tokenStart != 1) {
                    return false;
                }
                clauses[row + place] = letterAt(tokenStart) - '0';
                if (!numberFits(row, place)) {
                    return false;
                }
                nextToken();
            }
            clauseCount++;
            foresee(row);
            return true;
        }

        int clauseKind() {
            if (tokenKind == WORD) {
                for (int kind = 0; kind < KINDS; kind++) {
                    if (tokenIs(wordOf(kind))) {
                        return kind;
                    }
                }
            }
            return NONE;
        }

        boolean tokenIs(String word) {
            if (tokenEnd - tokenStart != word.length()) {
                return false;
            }
            for (int i = 0; i < word.length(); i++) {
                if (letterAt(tokenStart + i) != word.charAt(i)) {
                    return false;
                }
            }
            return true;
        }

        static String wordOf(int kind) {
            switch (kind) {
                case NET:
                    return "net";
                case LINK:
                    return "link";
                case FLOW:
                    return "flow";
                case POST:
                    return "post";
                case OLD:
                    return "old";
                default:
                    return "new";
            }
        }

        static int numbersOf(int kind) {
            switch (kind) {
                case NET:
                    return 1;
                case POST:
                    return 2;
                case FLOW:
                    return 4;
                default:
                    return 3;
            }
        }

        int clauseAt(int place) {
            return isPlace(place, clauses.length) ? clauses[place] : NONE;
        }

        int sourceOf(int k) {
            return isPlace(k, sources.length) ? sources[k] : NONE;
        }

        int goalOf(int k) {
            return isPlace(k, goals.length) ? goals[k] : NONE;
        }

        /** Whether the number at a place (1 on) of a CLAUSE is in its bounds, those ahead of it being so. */
        boolean numberFits(int row, int place) {
            int kind = clauseAt(row);
            int first = clauseAt(row + 1);
            int number = clauseAt(row + place);
            boolean isNode = number < nodes;
            boolean isUnlike = number != clauseAt(row + place - 1);
            if (kind == NET) {
                return number >= NODES_LEAST && number <= NODES_MOST;
            }
            if (kind == LINK) {
                return place == 1 ? isNode : place == 2 ? isNode && isUnlike : number <= ROOM_MOST;
            }
            if (place == 1) {
                return number < FLOWS;
            }
            if (kind == FLOW && place == 4) {
                return number >= SIZE_LEAST && number <= SIZE_MOST;
            }
            if (place == 3) {
                return isNode && isUnlike;
            }
            if (kind == FLOW) {
                return isNode;
            }
            boolean isGoal = number == goalOf(first);
            boolean isSource = number == sourceOf(first);
            return isNode && !isGoal && !(kind == POST && isSource);
        }

        void foresee(int row) {
            int kind = clauseAt(row);
            int k = clauseAt(row + 1);
            if (kind == NET) {
                nodes = k;
                for (int i = 0; i < FLOWS; i++) {
                    sources[i] = 0;
                    goals[i] = 1;
                }
            }
            if (kind == FLOW && isPlace(k, FLOWS)) {
                sources[k] = clauseAt(row + 2);
                goals[k] = clauseAt(row + 3);
            }
        }

        void doClauses() {
            for (int i = 0; i < clauseCount && i < CLAUSES_MOST; i++) {
                doClause(i * CLAUSE_WIDTH);
            }
        }

        void doClause(int row) {
            int kind = clauseAt(row);
            int a = clauseAt(row + 1);
            int b = clauseAt(row + 2);
            int c = clauseAt(row + 3);
            if (kind == NET) {
                net.startAnew(a);
                return;
            }
            if (kind == LINK) {
                net.setRoom(a, b, c);
                return;
            }
            Flow f = net.flowAt(a);
            if (f == null) {
                return;
            }
            if (kind == FLOW) {
                f.lay(b, c, clauseAt(row + 4));
            } else if (kind == POST) {
                f.post = b;
            } else if (kind == OLD) {
                f.setOld(b, c);
            } else {
                f.setNew(b, c);
            }
        }
    }
}
