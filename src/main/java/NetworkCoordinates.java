/**
 * A network coordinate system (Vivaldi): nodes estimate round-trip times from two-dimensional
 * positions and heights, which they adjust after each measurement.
 *
 * <p>The public methods look at their arguments; the state below them is only asked for nodes
 * and pairs that have passed that look.
 */
public final class NetworkCoordinates {
    public static final int NO_SUCH_NODE = -1000001;
    public static final int OUT_OF_RANGE = -1000002;
    public static final int SAME_NODE = -1000003;
    public static final int UNKNOWN_RTT = -1000004;
    public static final int NONE = -1000005;
    public static final int NOT_SAVED = -1000006;

    private static final int FINE = 0;

    private static final int FEWEST_NODES = 2;
    private static final int MOST_NODES = 10;
    private static final int INITIAL_NODES = 5;
    private static final int FARTHEST = 100000;
    private static final int HIGHEST = 100000;
    private static final int GREATEST_ERROR = 1000;
    private static final int LONGEST_RTT = 20000;
    private static final int GREATEST_LIE = 20000;
    private static final int GREATEST_GAIN = 1000;
    private static final int INITIAL_GAIN = 250;
    private static final int LONGEST_STEP = 20000;
    private static final int INITIAL_STEP = 2000;
    private static final int MOST_ROUNDS = 100;
    private static final int SLOTS = 2;
    private static final int UNKNOWN = 0;

    private final State now;
    /** A slot is null until something is saved there. */
    private final State[] slots;

    public NetworkCoordinates() {
        now = new State();
        slots = new State[SLOTS];
    }

    public int reset(int n) {
        if (!isWithin(n, FEWEST_NODES, MOST_NODES)) {
            return OUT_OF_RANGE;
        }
        int previous = now.nodes;
        now.begin(n);
        return previous;
    }

    public int setRtt(int a, int b, int rtt) {
        int fault = pairFault(a, b);
        if (fault != FINE) {
            return fault;
        }
        if (!isWithin(rtt, UNKNOWN, LONGEST_RTT)) {
            return OUT_OF_RANGE;
        }
        int previous = now.rttOf(a, b);
        now.keepRtt(a, b, rtt);
        return previous;
    }

    public int rtt(int a, int b) {
        int fault = knownPairFault(a, b);
        return fault != FINE ? fault : now.rttOf(a, b);
    }

    public int setLie(int node, int lie) {
        if (!isNode(node)) {
            return NO_SUCH_NODE;
        }
        if (!isWithin(lie, 0, GREATEST_LIE)) {
            return OUT_OF_RANGE;
        }
        int previous = now.lies[node];
        now.lies[node] = lie;
        return previous;
    }

    public int setGains(int errorGain, int moveGain) {
        if (!isWithin(errorGain, 1, GREATEST_GAIN) || !isWithin(moveGain, 1, GREATEST_GAIN)) {
            return OUT_OF_RANGE;
        }
        int previous = 10000 * now.errorGain + now.moveGain;
        now.errorGain = errorGain;
        now.moveGain = moveGain;
        return previous;
    }

    public int setMaxStep(int step) {
        if (!isWithin(step, 1, LONGEST_STEP)) {
            return OUT_OF_RANGE;
        }
        int previous = now.maxStep;
        now.maxStep = step;
        return previous;
    }

    public int place(int node, int x, int y, int height) {
        if (!isNode(node)) {
            return NO_SUCH_NODE;
        }
        if (!isWithin(x, -FARTHEST, FARTHEST)
                || !isWithin(y, -FARTHEST, FARTHEST)
                || !isWithin(height, 0, HIGHEST)) {
            return OUT_OF_RANGE;
        }
        int previous = now.errors[node];
        now.settle(node, x, y, height, GREATEST_ERROR);
        return previous;
    }

    public int x(int node) {
        return isNode(node) ? now.xs[node] : NO_SUCH_NODE;
    }

    public int y(int node) {
        return isNode(node) ? now.ys[node] : NO_SUCH_NODE;
    }

    public int height(int node) {
        return isNode(node) ? now.heights[node] : NO_SUCH_NODE;
    }

    public int error(int node) {
        return isNode(node) ? now.errors[node] : NO_SUCH_NODE;
    }

    public int predict(int a, int b) {
        int fault = pairFault(a, b);
        return fault != FINE ? fault : now.predicted(a, b);
    }

    public int measure(int a, int b) {
        int fault = knownPairFault(a, b);
        if (fault != FINE) {
            return fault;
        }
        now.update(a, b);
        return now.sample(a, b);
    }

    public int run(int rounds) {
        if (!isWithin(rounds, 1, MOST_ROUNDS)) {
            return OUT_OF_RANGE;
        }
        int measurements = 0;
        for (int i = 0; i < rounds; i++) {
            measurements += now.playRound();
        }
        return measurements;
    }

    public int roundCounter() {
        return now.round;
    }

    public int meanError() {
        long sum = 0;
        int known = 0;
        for (int a = 0; a < now.nodes; a++) {
            for (int b = a + 1; b < now.nodes; b++) {
                if (now.isKnown(a, b)) {
                    sum += now.relative(a, b);
                    known++;
                }
            }
        }
        return known == 0 ? NONE : (int) quotient(sum, known);
    }

    public int worstPair() {
        int worst = NONE;
        int greatest = -1;
        for (int a = 0; a < now.nodes; a++) {
            for (int b = a + 1; b < now.nodes; b++) {
                if (now.isKnown(a, b) && now.relative(a, b) > greatest) {
                    greatest = now.relative(a, b);
                    worst = 10 * a + b;
                }
            }
        }
        return worst;
    }

    public int relativeError(int a, int b) {
        int fault = knownPairFault(a, b);
        return fault != FINE ? fault : now.relative(a, b);
    }

    public int nearest(int node, int rank) {
        if (!isNode(node)) {
            return NO_SUCH_NODE;
        }
        if (!isWithin(rank, 0, now.nodes - 2)) {
            return OUT_OF_RANGE;
        }
        int found = NONE;
        for (int other = 0; other < now.nodes; other++) {
            if (other != node && now.rankOf(node, other) == rank) {
                found = other;
            }
        }
        return found;
    }

    public int relay(int a, int b) {
        int fault = pairFault(a, b);
        if (fault != FINE) {
            return fault;
        }
        int best = NONE;
        int shortest = Integer.MAX_VALUE;
        for (int third = 0; third < now.nodes; third++) {
            if (third != a && third != b) {
                int way = now.predicted(a, third) + now.predicted(third, b);
                if (way < shortest) {
                    shortest = way;
                    best = third;
                }
            }
        }
        return best;
    }

    public int triangles() {
        int count = 0;
        for (int a = 0; a < now.nodes; a++) {
            for (int b = a + 1; b < now.nodes; b++) {
                for (int c = b + 1; c < now.nodes; c++) {
                    if (now.isTriangle(a, b, c)) {
                        count++;
                    }
                }
            }
        }
        return count;
    }

    public int violations() {
        int cornersOfAll = 0;
        for (int node = 0; node < now.nodes; node++) {
            cornersOfAll += now.violationsAt(node);
        }
        // Each violated triangle has been met at each of its three nodes.
        return cornersOfAll / 3;
    }

    public int worstExcess() {
        int worst = 0;
        for (int a = 0; a < now.nodes; a++) {
            for (int b = a + 1; b < now.nodes; b++) {
                for (int c = b + 1; c < now.nodes; c++) {
                    worst = Math.max(worst, now.excess(a, b, c));
                }
            }
        }
        return worst == 0 ? NONE : worst;
    }

    public int suspect() {
        int suspected = NONE;
        int most = 0;
        for (int node = 0; node < now.nodes; node++) {
            int violations = now.violationsAt(node);
            if (violations > most) {
                most = violations;
                suspected = node;
            }
        }
        return suspected;
    }

    public int move(int a, int b) {
        int fault = knownPairFault(a, b);
        return fault != FINE ? fault : now.distanceMoved(a, b);
    }

    public int save(int slot) {
        if (!isWithin(slot, 0, SLOTS - 1)) {
            return OUT_OF_RANGE;
        }
        State kept = slots[slot];
        if (kept == null) {
            kept = new State();
            slots[slot] = kept;
        }
        kept.copyFrom(now);
        return 1;
    }

    public int restore(int slot) {
        if (!isWithin(slot, 0, SLOTS - 1)) {
            return OUT_OF_RANGE;
        }
        State kept = slots[slot];
        if (kept == null) {
            return NOT_SAVED;
        }
        now.copyFrom(kept);
        return 1;
    }

    private boolean isNode(int node) {
        return isWithin(node, 0, now.nodes - 1);
    }

    private int pairFault(int a, int b) {
        if (!isNode(a) || !isNode(b)) {
            return NO_SUCH_NODE;
        }
        return a == b ? SAME_NODE : FINE;
    }

    private int knownPairFault(int a, int b) {
        int fault = pairFault(a, b);
        if (fault != FINE) {
            return fault;
        }
        return now.isKnown(a, b) ? FINE : UNKNOWN_RTT;
    }

    private static boolean isWithin(int value, int least, int greatest) {
        return least <= value && value <= greatest;
    }

    private static int limited(long value, int least, int greatest) {
        return (int) Math.max(least, Math.min(greatest, value));
    }

    /**
     * The ranges of the document keep every divisor above 0; it is looked at all the same, so
     * that no division depends on code elsewhere.
     */
    private static long quotient(long dividend, long divisor) {
        return divisor < 1 ? 0 : dividend / divisor;
    }

    /** Nodes predicted to be at one place show no direction: then all of the step goes along x. */
    private static long share(int step, int part, int d) {
        return d == 0 ? 0 : quotient((long) step * part, d);
    }

    /** Rounded down; bit 18 is enough, as two nodes are never farther apart than 282842. */
    private static int squareRoot(long square) {
        long root = 0;
        for (int bit = 18; bit >= 0; bit--) {
            long larger = root + (1L << bit);
            if (larger * larger <= square) {
                root = larger;
            }
        }
        return (int) root;
    }

    private static int planarDistance(long dx, long dy) {
        return squareRoot(dx * dx + dy * dy);
    }

    /** All that a save slot keeps. */
    private static final class State {
        private int nodes;
        private int round;
        private int errorGain;
        private int moveGain;
        private int maxStep;
        private final int[] xs;
        private final int[] ys;
        private final int[] heights;
        private final int[] errors;
        private final int[] lies;
        /** Row after row, each pair in both directions, so that no reader has to order a pair. */
        private final int[] rtts;

        State() {
            errorGain = INITIAL_GAIN;
            moveGain = INITIAL_GAIN;
            maxStep = INITIAL_STEP;
            xs = new int[MOST_NODES];
            ys = new int[MOST_NODES];
            heights = new int[MOST_NODES];
            errors = new int[MOST_NODES];
            lies = new int[MOST_NODES];
            rtts = new int[MOST_NODES * MOST_NODES];
            begin(INITIAL_NODES);
        }

        void begin(int nodeCount) {
            nodes = nodeCount;
            round = 0;
            for (int node = 0; node < MOST_NODES; node++) {
                settle(node, 0, 0, 0, GREATEST_ERROR);
                lies[node] = 0;
            }
            for (int i = 0; i < rtts.length; i++) {
                rtts[i] = UNKNOWN;
            }
        }

        void copyFrom(State other) {
            nodes = other.nodes;
            round = other.round;
            errorGain = other.errorGain;
            moveGain = other.moveGain;
            maxStep = other.maxStep;
            System.arraycopy(other.xs, 0, xs, 0, MOST_NODES);
            System.arraycopy(other.ys, 0, ys, 0, MOST_NODES);
            System.arraycopy(other.heights, 0, heights, 0, MOST_NODES);
            System.arraycopy(other.errors, 0, errors, 0, MOST_NODES);
            System.arraycopy(other.lies, 0, lies, 0, MOST_NODES);
            System.arraycopy(other.rtts, 0, rtts, 0, MOST_NODES * MOST_NODES);
        }

        void settle(int node, int x, int y, int height, int error) {
            xs[node] = x;
            ys[node] = y;
            heights[node] = height;
            errors[node] = error;
        }

        int rttOf(int a, int b) {
            return rtts[MOST_NODES * a + b];
        }

        void keepRtt(int a, int b, int rtt) {
            rtts[MOST_NODES * a + b] = rtt;
            rtts[MOST_NODES * b + a] = rtt;
        }

        boolean isKnown(int a, int b) {
            return rttOf(a, b) != UNKNOWN;
        }

        int sample(int a, int b) {
            return rttOf(a, b) + lies[b];
        }

        int predicted(int a, int b) {
            return planarDistance(xs[a] - xs[b], ys[a] - ys[b]) + heights[a] + heights[b];
        }

        int playRound() {
            int others = nodes - 1;
            if (others < 1) {
                return 0;
            }
            int ahead = 1 + Math.floorMod(round, others);
            int measurements = 0;
            for (int a = 0; a < nodes; a++) {
                int b = a + ahead < nodes ? a + ahead : a + ahead - nodes;
                if (isKnown(a, b)) {
                    update(a, b);
                    measurements++;
                }
            }
            round++;
            return measurements;
        }

        void update(int a, int b) {
            int d = predicted(a, b);
            int step = stepOf(a, b, d);
            int x = xAfter(a, b, step, d);
            int y = yAfter(a, b, step, d);
            int height = heightAfter(a, b, step, d);
            settle(a, x, y, height, errorAfter(a, b, d));
        }

        int distanceMoved(int a, int b) {
            int d = predicted(a, b);
            int step = stepOf(a, b, d);
            return planarDistance(xAfter(a, b, step, d) - xs[a], yAfter(a, b, step, d) - ys[a]);
        }

        /** In thousandths: the less sure a is of itself beside b, the more it adjusts. */
        private long weight(int a, int b) {
            return quotient(1000L * errors[a], errors[a] + errors[b]);
        }

        private int errorAfter(int a, int b, int d) {
            int s = sample(a, b);
            long sampleError = Math.min(GREATEST_ERROR, quotient(1000L * Math.abs(d - s), s));
            long ve = errorGain * weight(a, b) / 1000;
            long after = (sampleError * ve + errors[a] * (1000 - ve)) / 1000;
            return (int) Math.max(1, after);
        }

        private int stepOf(int a, int b, int d) {
            long vm = moveGain * weight(a, b) / 1000;
            return limited((sample(a, b) - d) * vm / 1000, -maxStep, maxStep);
        }

        private int xAfter(int a, int b, int step, int d) {
            long change = d == 0 ? step : share(step, xs[a] - xs[b], d);
            return limited(xs[a] + change, -FARTHEST, FARTHEST);
        }

        private int yAfter(int a, int b, int step, int d) {
            long change = share(step, ys[a] - ys[b], d);
            return limited(ys[a] + change, -FARTHEST, FARTHEST);
        }

        private int heightAfter(int a, int b, int step, int d) {
            long change = share(step, heights[a] + heights[b], d);
            return limited(heights[a] + change, 0, HIGHEST);
        }

        /** Only for a known pair, and without any lie. */
        int relative(int a, int b) {
            int rtt = rttOf(a, b);
            return (int) quotient(1000L * Math.abs(predicted(a, b) - rtt), rtt);
        }

        /** How many nodes stand before other among the nearest of node. */
        int rankOf(int node, int other) {
            int distance = predicted(node, other);
            int before = 0;
            for (int rival = 0; rival < nodes; rival++) {
                if (rival != node && rival != other) {
                    int rivalDistance = predicted(node, rival);
                    if (rivalDistance < distance || rivalDistance == distance && rival < other) {
                        before++;
                    }
                }
            }
            return before;
        }

        boolean isTriangle(int a, int b, int c) {
            return isKnown(a, b) && isKnown(b, c) && isKnown(a, c);
        }

        /** 0 if the three are no triangle or not a violated one. */
        int excess(int a, int b, int c) {
            if (!isTriangle(a, b, c)) {
                return 0;
            }
            int ab = rttOf(a, b);
            int bc = rttOf(b, c);
            int ac = rttOf(a, c);
            int greatest = Math.max(ab, Math.max(bc, ac));
            return Math.max(0, greatest - (ab + bc + ac - greatest));
        }

        int violationsAt(int node) {
            int count = 0;
            for (int b = 0; b < nodes; b++) {
                for (int c = b + 1; c < nodes; c++) {
                    if (b != node && c != node && excess(node, b, c) > 0) {
                        count++;
                    }
                }
            }
            return count;
        }
    }
}
