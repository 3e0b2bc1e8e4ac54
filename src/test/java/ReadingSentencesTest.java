/** Promises 9 to 13 and 16: what a caller reads of nodes and rounds. */
public final class ReadingSentencesTest {
    public static void main(String[] args) {
        Sentences.run(ReadingSentencesTest.class);
    }

    /** Each node with an x, y and height that no other one has. */
    private static NetworkCoordinates placed(int n) {
        NetworkCoordinates net = Nets.of(n);
        for (int node = 0; node < n; node++) {
            net.place(node, 100 + node, -200 - node, 300 + node);
        }
        return net;
    }

    @Sentence(in = "Promise 9", words = "Returns x of a node")
    static void p9ReturnsXOfTheNode(Checks checks) {
        NetworkCoordinates net = placed(10);
        for (int node = 0; node < 10; node++) {
            checks.due("x(" + node + ")", 100 + node, net.x(node));
        }
    }

    @Sentence(in = "Promise 9", words = "Returns x, which may be negative")
    static void p9XMayBeNegative(Checks checks) {
        NetworkCoordinates net = Nets.of(2);
        for (int x : new int[] {-100000, -1, 0, 1, 100000}) {
            net.place(1, x, 7, 8);
            checks.due("x(1)", x, net.x(1));
        }
        net = Nets.apart(1, 1000);
        net.measure(1, 0);
        checks.due("x(1) after a measurement", -124, net.x(1));
    }

    @Sentence(in = "Promise 9", words = "NO_SUCH_NODE if node is not a node")
    static void p9NoSuchNode(Checks checks) {
        Refusals.noSuchNode(checks, NetworkCoordinates::x);
    }

    @Sentence(in = "Promise 10", words = "Returns y of a node")
    static void p10ReturnsYOfTheNode(Checks checks) {
        NetworkCoordinates net = placed(10);
        for (int node = 0; node < 10; node++) {
            checks.due("y(" + node + ")", -200 - node, net.y(node));
        }
    }

    @Sentence(in = "Promise 10", words = "Returns y, which may be negative")
    static void p10YMayBeNegative(Checks checks) {
        NetworkCoordinates net = Nets.of(2);
        for (int y : new int[] {-100000, -1, 0, 1, 100000}) {
            net.place(1, 7, y, 8);
            checks.due("y(1)", y, net.y(1));
        }
        net = Nets.two(0, 1, 0, 0, 1000);
        net.measure(1, 0);
        checks.due("y(1) after a measurement", -124, net.y(1));
    }

    @Sentence(in = "Promise 10", words = "NO_SUCH_NODE if node is not a node")
    static void p10NoSuchNode(Checks checks) {
        Refusals.noSuchNode(checks, NetworkCoordinates::y);
    }

    @Sentence(in = "Promise 11", words = "Returns the height of a node")
    static void p11ReturnsTheHeightOfTheNode(Checks checks) {
        NetworkCoordinates net = placed(10);
        for (int node = 0; node < 10; node++) {
            checks.due("height(" + node + ")", 300 + node, net.height(node));
        }
    }

    @Sentence(in = "Promise 11", words = "Returns the height")
    static void p11ReturnsTheHeightFromEndToEnd(Checks checks) {
        NetworkCoordinates net = Nets.of(2);
        for (int height : new int[] {0, 1, 100000}) {
            net.place(1, -7, -8, height);
            checks.due("height(1)", height, net.height(1));
        }
        net = Nets.two(0, 0, 0, 1, 1000);
        net.measure(0, 1);
        checks.due("height(0) after a measurement", 124, net.height(0));
    }

    @Sentence(in = "Promise 11", words = "NO_SUCH_NODE if node is not a node")
    static void p11NoSuchNode(Checks checks) {
        Refusals.noSuchNode(checks, NetworkCoordinates::height);
    }

    @Sentence(in = "Promise 12", words = "Returns the error estimate of a node")
    static void p12ReturnsTheErrorEstimateOfTheNode(Checks checks) {
        NetworkCoordinates net = Nets.of(10);
        for (int node = 1; node < 10; node++) {
            // es is 100 * node, and 1000 - 125 + es / 8 the new error estimate.
            net.place(node, 1000 - 100 * node, 0, 0);
            net.setRtt(0, node, 1000);
            net.measure(node, 0);
        }
        checks.due("error(0)", 1000, net.error(0));
        for (int node = 1; node < 10; node++) {
            checks.due("error(" + node + ")", 875 + 25 * node / 2, net.error(node));
        }
    }

    @Sentence(in = "Promise 12", words = "Returns the error estimate")
    static void p12ReturnsTheErrorEstimateFromEndToEnd(Checks checks) {
        NetworkCoordinates net = Nets.sure();
        checks.due("error(1), the smallest", 1, net.error(1));
        net.place(1, 0, 0, 0);
        checks.due("error(1), placed again", 1000, net.error(1));
        checks.due("error(0), as it was", 1, net.error(0));
    }

    @Sentence(in = "Promise 12", words = "NO_SUCH_NODE if node is not a node")
    static void p12NoSuchNode(Checks checks) {
        Refusals.noSuchNode(checks, NetworkCoordinates::error);
    }

    @Sentence(in = "Promise 13", words = "Returns the predicted rtt of a pair")
    static void p13ReturnsThePredictionOfThePair(Checks checks) {
        NetworkCoordinates net = Nets.of(4);
        net.place(0, 0, 0, 1);
        net.place(1, 30, 40, 2);
        net.place(2, -60, 80, 4);
        net.place(3, 0, -500, 0);
        int[][] pairs = {{0, 1, 53}, {0, 2, 105}, {0, 3, 501}, {1, 2, 104}, {1, 3, 542},
            {2, 3, 587}};
        for (int[] pair : pairs) {
            String call = "predict of " + pair[0] + " and " + pair[1];
            checks.due(call, pair[2], net.predict(pair[0], pair[1]));
            checks.due(call + ", backwards", pair[2], net.predict(pair[1], pair[0]));
        }
    }

    @Sentence(in = "Promise 13", words = "Returns the predicted rtt")
    static void p13ReturnsThePredictionAlone(Checks checks) {
        NetworkCoordinates net = Nets.of(2);
        checks.due("predict(0, 1) of an unknown pair at one place", 0, net.predict(0, 1));
        net.place(0, 3, 4, 0);
        checks.due("predict(0, 1) of an unknown pair", 5, net.predict(0, 1));
        net.setRtt(0, 1, 900);
        net.setLie(0, 40);
        net.setLie(1, 50);
        checks.due("predict(0, 1) whatever the rtt and the lies", 5, net.predict(0, 1));
        checks.due("predict(1, 0) whatever the rtt and the lies", 5, net.predict(1, 0));
    }

    @Sentence(in = "Promise 13", words = "NO_SUCH_NODE if a or b is not a node (checked first)")
    static void p13NoSuchNode(Checks checks) {
        Refusals.noSuchNodes(checks, NetworkCoordinates::predict);
    }

    @Sentence(in = "Promise 13", words = "SAME_NODE if a equals b")
    static void p13SameNode(Checks checks) {
        Refusals.sameNode(checks, NetworkCoordinates::predict);
    }

    @Sentence(in = "Promise 16", words = "Returns the round counter")
    static void p16ReturnsTheRoundCounter(Checks checks) {
        NetworkCoordinates net = new NetworkCoordinates();
        checks.due("roundCounter() at first", 0, net.roundCounter());
        net.run(1);
        checks.due("roundCounter() after run(1)", 1, net.roundCounter());
        net.run(100);
        checks.due("roundCounter() after run(100)", 101, net.roundCounter());
        net.setRtt(0, 1, 50);
        net.measure(0, 1);
        net.move(0, 1);
        net.run(0);
        net.run(101);
        checks.due("roundCounter() without a round", 101, net.roundCounter());
        // More rounds than the nodes have others: the counter itself goes on.
        net.reset(2);
        net.run(9);
        checks.due("roundCounter() of two nodes", 9, net.roundCounter());
    }
}
