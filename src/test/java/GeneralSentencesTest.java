import java.lang.reflect.Method;
import java.lang.reflect.Modifier;

/** The document's beginning, its first rules, and NODES, MEASUREMENTS and PREDICTION. */
public final class GeneralSentencesTest {
    private static final int CALLS = 512;

    public static void main(String[] args) {
        Sentences.run(GeneralSentencesTest.class);
    }

    @Sentence(in = "What it is",
            words = "An object is used for at most 512 calls after it has been made")
    static void answersRightlyToTheLastCall(Checks checks) {
        NetworkCoordinates net = Nets.allKnown(10, 100);
        int made = 46;
        for (; made < CALLS - 1; made++) {
            checks.due("run(100), call " + (made + 1), 1000, net.run(100));
        }
        checks.due("roundCounter(), call 512", 100 * (CALLS - 1 - 46), net.roundCounter());
    }

    @Sentence(in = "The public face", words = "NO_SUCH_NODE = -1000001, OUT_OF_RANGE = -1000002, "
            + "SAME_NODE = -1000003, UNKNOWN_RTT = -1000004, NONE = -1000005, NOT_SAVED = -1000006")
    static void constants(Checks checks) throws IllegalAccessException, NoSuchFieldException {
        constant(checks, "NO_SUCH_NODE", -1000001);
        constant(checks, "OUT_OF_RANGE", -1000002);
        constant(checks, "SAME_NODE", -1000003);
        constant(checks, "UNKNOWN_RTT", -1000004);
        constant(checks, "NONE", -1000005);
        constant(checks, "NOT_SAVED", -1000006);
    }

    /** By reflection: the compiler would put the value into this test. */
    private static void constant(Checks checks, String name, int due)
            throws IllegalAccessException, NoSuchFieldException {
        checks.due(name, due, NetworkCoordinates.class.getField(name).getInt(null));
    }

    @Sentence(in = "Description", words = "All values are integers")
    static void integers(Checks checks) {
        for (Method method : NetworkCoordinates.class.getDeclaredMethods()) {
            if (Modifier.isPublic(method.getModifiers())) {
                checks.holds(method + " answers an int", method.getReturnType() == int.class);
                for (Class<?> type : method.getParameterTypes()) {
                    checks.holds(method + " takes ints", type == int.class);
                }
            }
        }
    }

    @Sentence(in = "Description",
            words = "All divisions are integer divisions that round toward zero")
    static void divisionsRoundTowardZero(Checks checks) {
        // d is 63 and the step -62 * 125 / 1000, which is -7.75; x changes by 210 / 63, y by
        // -280 / 63 and the height by -91 / 63: nothing is exact, and most of it is below 0.
        NetworkCoordinates net = Nets.two(-30, 40, 10, 3, 1);
        net.measure(0, 1);
        Nets.nodeDue(checks, net, 0, -27, 36, 9, 1000);
        // The step is 11.875, the sample error 950, the error estimate 993.75.
        net = Nets.two(3, -4, 0, 0, 100);
        net.measure(0, 1);
        Nets.nodeDue(checks, net, 0, 9, -12, 0, 993);
        net = Nets.of(3);
        net.place(0, 3, 4, 30);
        net.setRtt(0, 1, 36);
        checks.due("relativeError(0, 1), 27.7", 27, net.relativeError(0, 1));
        net.setRtt(0, 2, 35);
        checks.due("meanError(), 13.5", 13, net.meanError());
    }

    @Sentence(in = "Description", words = "The square root of a number is rounded down")
    static void squareRootIsRoundedDown(Checks checks) {
        root(checks, 0, 0, 0);
        root(checks, 1, 0, 1);
        root(checks, 1, 1, 1);
        root(checks, 2, 2, 2);
        root(checks, 7, 7, 9);
        root(checks, 20, 21, 29);
        root(checks, 99999, 447, 99999);
        root(checks, 99999, 448, 100000);
        root(checks, 100000, 100000, 141421);
        NetworkCoordinates net = Nets.two(100000, 100000, 0, 0, 1);
        net.place(1, -100000, -100000, 0);
        checks.due("the greatest root", 282842, net.predict(0, 1));
    }

    private static void root(Checks checks, int x, int y, int due) {
        NetworkCoordinates net = Nets.two(x, y, 0, 0, 1);
        checks.due("the root for " + x + ", " + y, due, net.predict(0, 1));
        checks.due("the root for " + y + ", " + x, due, Nets.two(-y, x, 0, 0, 1).predict(0, 1));
    }

    @Sentence(in = "Description",
            words = "Intermediate results do not overflow; they are computed with 64 bits")
    static void nothingOverflows(Checks checks) {
        farApart(checks, 100000, 0, 0);
        farApart(checks, 0, 100000, 0);
        farApart(checks, 0, 0, 100000);
        NetworkCoordinates net = Nets.allKnown(10, 1);
        for (int a = 0; a < 10; a++) {
            int corner = a % 2 == 0 ? 100000 : -100000;
            net.place(a, corner, corner, 100000);
        }
        // 25 pairs have 482841000 and 20 have 199999000: 16071005000 in all.
        checks.due("meanError()", 357133444, net.meanError());
    }

    /** d is 200000 and the step -20000; their product with the 200000 between both is too long. */
    private static void farApart(Checks checks, int x, int y, int height) {
        NetworkCoordinates net = Nets.two(x, y, height, height, 1);
        net.place(1, -x, -y, height);
        net.setMaxStep(20000);
        checks.due("predict(0, 1)", 200000, net.predict(0, 1));
        net.measure(0, 1);
        Nets.nodeDue(checks, net, 0, x / 5 * 4, y / 5 * 4, height / 5 * 4, 1000);
    }

    @Sentence(in = "Description", words = "A call that returns an error code changes nothing")
    static void refusedCallsChangeNothing(Checks checks) {
        NetworkCoordinates net = Nets.changedEverywhere();
        net.setRtt(0, 1, 0);
        net.save(1);
        Picture saved = new Picture(net, 10);
        net.place(3, 1, 2, 3);
        net.run(1);
        Picture before = new Picture(net, 10);
        int[] answers = {net.reset(1), net.setRtt(2, 2, 5), net.setRtt(2, 3, 20001),
            net.setRtt(2, 10, 5), net.setLie(10, 5), net.setLie(9, -1), net.setGains(5, 1001),
            net.setGains(0, 5), net.setMaxStep(20001), net.place(10, 5, 5, 5),
            net.place(9, 5, 5, -1), net.place(9, 5, 100001, 5), net.place(9, -100001, 5, 5),
            net.measure(0, 1), net.measure(9, 10), net.measure(9, 9), net.run(101), net.run(0),
            net.move(1, 0), net.save(2), net.save(-1), net.restore(2), net.restore(0)};
        for (int i = 0; i < answers.length; i++) {
            checks.holds("refused call " + i + " answers an error code", answers[i] < -1000000);
        }
        checks.due("nothing is changed " + before.difference(net), 0,
                before.difference(net).length());
        checks.due("the gains are unchanged", 3000400, net.setGains(1, 1));
        checks.due("the maximum step is unchanged", 70, net.setMaxStep(1));
        net.restore(1);
        checks.due("the slot is unchanged " + saved.difference(net), 0,
                saved.difference(net).length());
    }

    @Sentence(in = "NODES",
            words = "There are n nodes with indices 0 to n - 1, where n is 2 to 10, initially 5")
    static void nodesHaveTheIndices0ToN1(Checks checks) {
        indices(checks, new NetworkCoordinates(), 5);
        for (int n = 2; n <= 10; n++) {
            indices(checks, Nets.of(n), n);
        }
        checks.due("reset(1)", Due.OUT_OF_RANGE, Nets.of(2).reset(1));
        checks.due("reset(11)", Due.OUT_OF_RANGE, Nets.of(2).reset(11));
    }

    private static void indices(Checks checks, NetworkCoordinates net, int n) {
        for (int node = -2; node < n + 3; node++) {
            int due = node >= 0 && node < n ? 0 : Due.NO_SUCH_NODE;
            checks.due("x(" + node + ") of " + n, due, net.x(node));
        }
    }

    @Sentence(in = "NODES", words = "Each node has a position x, y (each -100000 to 100000), "
            + "a height (0 to 100000) and an error estimate (1 to 1000, in thousandths)")
    static void nodesReachTheirRanges(Checks checks) {
        NetworkCoordinates net = Nets.of(10);
        for (int node = 0; node < 10; node += 2) {
            net.place(node, -100000, 100000, 0);
            net.place(node + 1, 100000, -100000, 100000);
        }
        for (int node = 0; node < 10; node += 2) {
            Nets.nodeDue(checks, net, node, -100000, 100000, 0, 1000);
            Nets.nodeDue(checks, net, node + 1, 100000, -100000, 100000, 1000);
        }
        // A thousand measurements of what is exactly predicted leave the smallest error estimate.
        net = Nets.sure();
        net.run(100);
        checks.due("the smallest error(0)", 1, net.error(0));
        checks.due("the smallest error(1)", 1, net.error(1));
    }

    @Sentence(in = "NODES",
            words = "Initially all positions and heights are 0 and all error estimates are 1000")
    static void nodesAreInitiallyAt0(Checks checks) {
        for (int n = 2; n <= 10; n++) {
            NetworkCoordinates net = Nets.of(n);
            for (int node = 0; node < n; node++) {
                Nets.nodeDue(checks, net, node, 0, 0, 0, 1000);
            }
        }
    }

    @Sentence(in = "MEASUREMENTS", words = "For each pair of different nodes a round-trip time "
            + "(rtt) is known or unknown")
    static void eachPairIsKnownOrUnknown(Checks checks) {
        for (int a = 0; a < 10; a++) {
            for (int b = a + 1; b < 10; b++) {
                NetworkCoordinates net = Nets.of(10);
                net.setRtt(a, b, 9);
                onlyKnown(checks, net, a, b);
            }
        }
    }

    private static void onlyKnown(Checks checks, NetworkCoordinates net, int a, int b) {
        for (int c = 0; c < 10; c++) {
            for (int d = c + 1; d < 10; d++) {
                int due = c == a && d == b ? 9 : Due.UNKNOWN_RTT;
                checks.due("rtt(" + c + ", " + d + ")", due, net.rtt(c, d));
            }
        }
    }

    @Sentence(in = "MEASUREMENTS", words = "it is the same in both directions and is 1 to 20000")
    static void rttIsTheSameInBothDirections(Checks checks) {
        NetworkCoordinates net = Nets.of(3);
        net.setRtt(0, 2, 20000);
        net.setRtt(2, 1, 1);
        checks.due("rtt(0, 2)", 20000, net.rtt(0, 2));
        checks.due("rtt(2, 0)", 20000, net.rtt(2, 0));
        checks.due("rtt(1, 2)", 1, net.rtt(1, 2));
        checks.due("rtt(2, 1)", 1, net.rtt(2, 1));
        net.setRtt(2, 0, 0);
        checks.due("rtt(0, 2) made unknown", Due.UNKNOWN_RTT, net.rtt(0, 2));
        checks.due("setRtt(0, 2, 20001)", Due.OUT_OF_RANGE, net.setRtt(0, 2, 20001));
        checks.due("setRtt(0, 2, -1)", Due.OUT_OF_RANGE, net.setRtt(0, 2, -1));
    }

    @Sentence(in = "MEASUREMENTS", words = "Initially all are unknown")
    static void rttsAreInitiallyUnknown(Checks checks) {
        allUnknown(checks, new NetworkCoordinates(), 5);
        for (int n = 2; n <= 10; n++) {
            allUnknown(checks, Nets.of(n), n);
        }
    }

    private static void allUnknown(Checks checks, NetworkCoordinates net, int n) {
        for (int a = 0; a < n; a++) {
            for (int b = 0; b < n; b++) {
                int due = a == b ? Due.SAME_NODE : Due.UNKNOWN_RTT;
                checks.due("rtt(" + a + ", " + b + ") of " + n, due, net.rtt(a, b));
            }
        }
    }

    @Sentence(in = "MEASUREMENTS", words = "Each node has a lie, 0 to 20000, initially 0")
    static void eachNodeHasALie(Checks checks) {
        NetworkCoordinates net = Nets.of(10);
        for (int node = 0; node < 10; node++) {
            checks.due("the initial lie of " + node, 0, net.setLie(node, 20000 - node));
        }
        for (int node = 0; node < 10; node++) {
            checks.due("the lie of " + node, 20000 - node, net.setLie(node, 0));
            checks.due("the lie 0 of " + node, 0, net.setLie(node, 7));
        }
        checks.due("setLie(0, 20001)", Due.OUT_OF_RANGE, net.setLie(0, 20001));
        checks.due("setLie(0, -1)", Due.OUT_OF_RANGE, net.setLie(0, -1));
    }

    @Sentence(in = "MEASUREMENTS",
            words = "When node a measures node b, the sample is the rtt of the pair plus the lie "
                    + "of b")
    static void sampleIsTheRttPlusTheLie(Checks checks) {
        NetworkCoordinates net = Nets.apart(0, 20000);
        checks.due("measure(0, 1) without a lie", 20000, net.measure(0, 1));
        net.setLie(1, 20000);
        checks.due("measure(0, 1)", 40000, net.measure(0, 1));
        checks.due("measure(1, 0), the lie is not its own", 20000, net.measure(1, 0));
        net.setLie(0, 5);
        checks.due("measure(1, 0)", 20005, net.measure(1, 0));
        checks.due("measure(0, 1)", 40000, net.measure(0, 1));
        net = Nets.apart(0, 1);
        checks.due("the smallest sample", 1, net.measure(0, 1));
    }

    @Sentence(in = "PREDICTION", words = "For two different nodes a and b let dx be x of a minus "
            + "x of b, and let dy be y of a minus y of b")
    static void differencesAreThoseOfAAndB(Checks checks) {
        // The step is 11: away from the other, wherever both are.
        pushed(checks, 10, 0, 21, 0);
        pushed(checks, -10, 0, -21, 0);
        pushed(checks, 0, 10, 0, 21);
        pushed(checks, 0, -10, 0, -21);
    }

    private static void pushed(Checks checks, int x, int y, int dueX, int dueY) {
        NetworkCoordinates net = Nets.two(x, y, 0, 0, 100);
        net.measure(0, 1);
        checks.due("x(0) from " + x, dueX, net.x(0));
        checks.due("y(0) from " + y, dueY, net.y(0));
        net = Nets.two(-7 + x, 50 + y, 0, 0, 100);
        net.place(1, -7, 50, 0);
        net.measure(0, 1);
        checks.due("x(0) from " + x + " beside -7", -7 + dueX, net.x(0));
        checks.due("y(0) from " + y + " beside 50", 50 + dueY, net.y(0));
    }

    @Sentence(in = "PREDICTION",
            words = "The planar distance is the square root of dx * dx + dy * dy")
    static void planarDistance(Checks checks) {
        checks.due("no distance", 0, Nets.two(0, 0, 0, 0, 1).predict(0, 1));
        checks.due("along x alone", 8, Nets.two(-8, 0, 0, 0, 1).predict(0, 1));
        checks.due("along y alone", 8, Nets.two(0, -8, 0, 0, 1).predict(0, 1));
        checks.due("along both", 500, Nets.two(300, -400, 0, 0, 1).predict(0, 1));
        checks.due("from the other", 500, Nets.two(300, -400, 0, 0, 1).predict(1, 0));
    }

    @Sentence(in = "PREDICTION", words = "The predicted rtt is the planar distance plus the "
            + "height of a plus the height of b")
    static void predictedRttHasBothHeights(Checks checks) {
        checks.due("no heights", 500, Nets.two(300, 400, 0, 0, 1).predict(0, 1));
        checks.due("the height of a", 511, Nets.two(300, 400, 11, 0, 1).predict(0, 1));
        checks.due("the height of b", 522, Nets.two(300, 400, 0, 22, 1).predict(0, 1));
        checks.due("both heights", 533, Nets.two(300, 400, 11, 22, 1).predict(0, 1));
        checks.due("heights alone", 33, Nets.two(0, 0, 11, 22, 1).predict(0, 1));
        NetworkCoordinates net = Nets.two(100000, 100000, 100000, 100000, 1);
        net.place(1, -100000, -100000, 100000);
        checks.due("the greatest", 482842, net.predict(0, 1));
    }
}
