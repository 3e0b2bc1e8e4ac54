import java.math.BigInteger;
import java.util.ArrayList;
import java.util.Comparator;
import java.util.List;
import java.util.Map;
import java.util.TreeMap;

/**
 * The document's words once more, with the Java library's big numbers, lists and maps: written
 * apart from the class under test, so that both are unlikely to have the same mistake.
 */
final class Model {
    private record Node(BigInteger x, BigInteger y, BigInteger height, BigInteger error, int lie) {
    }

    private record Saved(List<Node> nodes, Map<Integer, Integer> rtts, int counter, int ge, int gm,
            int maxStep) {
    }

    private record Triangle(int a, int b, int c, int excess) {
        boolean has(int node) {
            return a == node || b == node || c == node;
        }
    }

    private static final int NO_SUCH_NODE = -1000001;
    private static final int OUT_OF_RANGE = -1000002;
    private static final int SAME_NODE = -1000003;
    private static final int UNKNOWN_RTT = -1000004;
    private static final int NONE = -1000005;
    private static final int NOT_SAVED = -1000006;
    private static final BigInteger THOUSAND = BigInteger.valueOf(1000);
    private static final BigInteger FAR = BigInteger.valueOf(100000);

    private List<Node> nodes = new ArrayList<>();
    private Map<Integer, Integer> rtts = new TreeMap<>();
    private int counter;
    private int ge = 250;
    private int gm = 250;
    private int maxStep = 2000;
    private final Saved[] slots = new Saved[2];

    Model() {
        reset(5);
    }

    int reset(int n) {
        if (n < 2 || n > 10) {
            return OUT_OF_RANGE;
        }
        int previous = nodes.size();
        nodes = new ArrayList<>();
        rtts = new TreeMap<>();
        counter = 0;
        for (int i = 0; i < n; i++) {
            nodes.add(new Node(BigInteger.ZERO, BigInteger.ZERO, BigInteger.ZERO, THOUSAND, 0));
        }
        return previous;
    }

    int setRtt(int a, int b, int rtt) {
        if (fault(a, b) != 0) {
            return fault(a, b);
        }
        if (rtt < 0 || rtt > 20000) {
            return OUT_OF_RANGE;
        }
        Integer previous = rtt == 0 ? rtts.remove(key(a, b)) : rtts.put(key(a, b), rtt);
        return previous == null ? 0 : previous;
    }

    int rtt(int a, int b) {
        return fault(a, b) != 0 ? fault(a, b) : rtts.getOrDefault(key(a, b), UNKNOWN_RTT);
    }

    int setLie(int i, int lie) {
        if (isNoNode(i)) {
            return NO_SUCH_NODE;
        }
        if (lie < 0 || lie > 20000) {
            return OUT_OF_RANGE;
        }
        Node old = nodes.get(i);
        nodes.set(i, new Node(old.x, old.y, old.height, old.error, lie));
        return old.lie;
    }

    int setGains(int errorGain, int moveGain) {
        if (errorGain < 1 || errorGain > 1000 || moveGain < 1 || moveGain > 1000) {
            return OUT_OF_RANGE;
        }
        int previous = 10000 * ge + gm;
        ge = errorGain;
        gm = moveGain;
        return previous;
    }

    int setMaxStep(int step) {
        if (step < 1 || step > 20000) {
            return OUT_OF_RANGE;
        }
        int previous = maxStep;
        maxStep = step;
        return previous;
    }

    int place(int i, int x, int y, int height) {
        if (isNoNode(i)) {
            return NO_SUCH_NODE;
        }
        if (Math.abs((long) x) > 100000 || Math.abs((long) y) > 100000 || height < 0 || height > 100000) {
            return OUT_OF_RANGE;
        }
        Node old = nodes.get(i);
        nodes.set(i, new Node(BigInteger.valueOf(x), BigInteger.valueOf(y), BigInteger.valueOf(height),
                THOUSAND, old.lie));
        return old.error.intValueExact();
    }

    int x(int i) {
        return isNoNode(i) ? NO_SUCH_NODE : nodes.get(i).x.intValueExact();
    }

    int y(int i) {
        return isNoNode(i) ? NO_SUCH_NODE : nodes.get(i).y.intValueExact();
    }

    int height(int i) {
        return isNoNode(i) ? NO_SUCH_NODE : nodes.get(i).height.intValueExact();
    }

    int error(int i) {
        return isNoNode(i) ? NO_SUCH_NODE : nodes.get(i).error.intValueExact();
    }

    int predict(int a, int b) {
        return fault(a, b) != 0 ? fault(a, b) : predicted(a, b).intValueExact();
    }

    int measure(int a, int b) {
        int rtt = rtt(a, b);
        if (rtt < 0) {
            return rtt;
        }
        nodes.set(a, measured(a, b));
        return rtt + nodes.get(b).lie;
    }

    int run(int rounds) {
        if (rounds < 1 || rounds > 100) {
            return OUT_OF_RANGE;
        }
        int made = 0;
        int n = nodes.size();
        for (int i = 0; i < rounds; i++, counter++) {
            for (int a = 0; a < n; a++) {
                made += measure(a, (a + 1 + counter % (n - 1)) % n) < 0 ? 0 : 1;
            }
        }
        return made;
    }

    int roundCounter() {
        return counter;
    }

    int meanError() {
        BigInteger sum = BigInteger.ZERO;
        for (int pair : rtts.keySet()) {
            sum = sum.add(BigInteger.valueOf(relativeError(pair / 10, pair % 10)));
        }
        return rtts.isEmpty() ? NONE : sum.divide(BigInteger.valueOf(rtts.size())).intValueExact();
    }

    int worstPair() {
        return rtts.keySet().stream()
                .min(Comparator.comparing((Integer pair) -> -relativeError(pair / 10, pair % 10))
                        .thenComparing(pair -> pair))
                .orElse(NONE);
    }

    int relativeError(int a, int b) {
        int rtt = rtt(a, b);
        if (rtt < 0) {
            return rtt;
        }
        BigInteger real = BigInteger.valueOf(rtt);
        return THOUSAND.multiply(predicted(a, b).subtract(real).abs()).divide(real).intValueExact();
    }

    int nearest(int i, int rank) {
        if (isNoNode(i)) {
            return NO_SUCH_NODE;
        }
        if (rank < 0 || rank > nodes.size() - 2) {
            return OUT_OF_RANGE;
        }
        List<Integer> others = allBut(i, i);
        others.sort(Comparator.comparing((Integer other) -> predicted(i, other)));
        return others.get(rank);
    }

    int relay(int a, int b) {
        if (fault(a, b) != 0) {
            return fault(a, b);
        }
        List<Integer> others = allBut(a, b);
        others.sort(Comparator.comparing((Integer c) -> predicted(a, c).add(predicted(c, b))));
        return others.isEmpty() ? NONE : others.get(0);
    }

    int triangles() {
        return allTriangles().size();
    }

    int violations() {
        return violated().size();
    }

    int worstExcess() {
        return violated().stream().mapToInt(Triangle::excess).max().orElse(NONE);
    }

    int suspect() {
        List<Triangle> violated = violated();
        int suspect = NONE;
        long most = 0;
        for (int i = 0; i < nodes.size(); i++) {
            int node = i;
            long in = violated.stream().filter(triangle -> triangle.has(node)).count();
            suspect = in > most ? node : suspect;
            most = Math.max(in, most);
        }
        return suspect;
    }

    int move(int a, int b) {
        if (rtt(a, b) < 0) {
            return rtt(a, b);
        }
        Node before = nodes.get(a);
        Node after = measured(a, b);
        return planar(after, before).intValueExact();
    }

    int save(int slot) {
        if (slot != 0 && slot != 1) {
            return OUT_OF_RANGE;
        }
        slots[slot] = new Saved(List.copyOf(nodes), Map.copyOf(rtts), counter, ge, gm, maxStep);
        return 1;
    }

    int restore(int slot) {
        if (slot != 0 && slot != 1) {
            return OUT_OF_RANGE;
        }
        Saved saved = slots[slot];
        if (saved == null) {
            return NOT_SAVED;
        }
        nodes = new ArrayList<>(saved.nodes);
        rtts = new TreeMap<>(saved.rtts);
        counter = saved.counter;
        ge = saved.ge;
        gm = saved.gm;
        maxStep = saved.maxStep;
        return 1;
    }

    int nodeCount() {
        return nodes.size();
    }

    private boolean isNoNode(int i) {
        return i < 0 || i >= nodes.size();
    }

    private int fault(int a, int b) {
        if (isNoNode(a) || isNoNode(b)) {
            return NO_SUCH_NODE;
        }
        return a == b ? SAME_NODE : 0;
    }

    private static int key(int a, int b) {
        return 10 * Math.min(a, b) + Math.max(a, b);
    }

    private static BigInteger planar(Node one, Node other) {
        return one.x.subtract(other.x).pow(2).add(one.y.subtract(other.y).pow(2)).sqrt();
    }

    private BigInteger predicted(int a, int b) {
        return planar(nodes.get(a), nodes.get(b)).add(nodes.get(a).height).add(nodes.get(b).height);
    }

    private Node measured(int a, int b) {
        Node me = nodes.get(a);
        Node other = nodes.get(b);
        BigInteger s = BigInteger.valueOf(rtt(a, b) + other.lie);
        BigInteger d = predicted(a, b);
        BigInteger w = THOUSAND.multiply(me.error).divide(me.error.add(other.error));
        BigInteger es = THOUSAND.multiply(d.subtract(s).abs()).divide(s).min(THOUSAND);
        BigInteger ve = BigInteger.valueOf(ge).multiply(w).divide(THOUSAND);
        BigInteger error = es.multiply(ve).add(me.error.multiply(THOUSAND.subtract(ve)))
                .divide(THOUSAND).max(BigInteger.ONE);
        BigInteger vm = BigInteger.valueOf(gm).multiply(w).divide(THOUSAND);
        BigInteger longest = BigInteger.valueOf(maxStep);
        BigInteger step = s.subtract(d).multiply(vm).divide(THOUSAND).min(longest).max(longest.negate());
        if (d.signum() == 0) {
            return new Node(near(me.x.add(step)), me.y, me.height, error, me.lie);
        }
        BigInteger x = me.x.add(step.multiply(me.x.subtract(other.x)).divide(d));
        BigInteger y = me.y.add(step.multiply(me.y.subtract(other.y)).divide(d));
        BigInteger height = me.height.add(step.multiply(me.height.add(other.height)).divide(d));
        return new Node(near(x), near(y), height.max(BigInteger.ZERO).min(FAR), error, me.lie);
    }

    private static BigInteger near(BigInteger position) {
        return position.max(FAR.negate()).min(FAR);
    }

    private List<Integer> allBut(int a, int b) {
        List<Integer> others = new ArrayList<>();
        for (int i = 0; i < nodes.size(); i++) {
            if (i != a && i != b) {
                others.add(i);
            }
        }
        return others;
    }

    private List<Triangle> allTriangles() {
        List<Triangle> found = new ArrayList<>();
        for (int pair : rtts.keySet()) {
            int a = pair / 10;
            int b = pair % 10;
            for (int c = b + 1; c < nodes.size(); c++) {
                if (rtt(a, c) > 0 && rtt(b, c) > 0) {
                    int[] sides = {rtt(a, b), rtt(a, c), rtt(b, c)};
                    java.util.Arrays.sort(sides);
                    found.add(new Triangle(a, b, c, sides[2] - sides[1] - sides[0]));
                }
            }
        }
        return found;
    }

    private List<Triangle> violated() {
        return allTriangles().stream().filter(triangle -> triangle.excess > 0).toList();
    }
}
