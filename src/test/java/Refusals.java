/** The refusals that many calls have alike, each for the sentence of one call. */
final class Refusals {
    private static final int[] SIZES = {2, 5, 10};

    interface NodeCall {
        int of(NetworkCoordinates net, int node);
    }

    interface PairCall {
        int of(NetworkCoordinates net, int a, int b);
    }

    private Refusals() {
    }

    static void noSuchNode(Checks checks, NodeCall call) {
        for (int n : SIZES) {
            NetworkCoordinates net = Nets.allKnown(n, 100);
            for (int node : Edges.notNodes(n)) {
                checks.due(node + " of " + n + " nodes", Due.NO_SUCH_NODE, call.of(net, node));
            }
            for (int node = 0; node < n; node++) {
                boolean taken = call.of(net, node) != Due.NO_SUCH_NODE;
                checks.holds(node + " of " + n + " nodes is one", taken);
            }
        }
    }

    /** A node beside itself is no node first, and the same only then. */
    static void noSuchNodes(Checks checks, PairCall call) {
        for (int n : SIZES) {
            NetworkCoordinates net = Nets.allKnown(n, 100);
            for (int node : Edges.notNodes(n)) {
                String of = " of " + n + " nodes";
                checks.due(node + ", 0" + of, Due.NO_SUCH_NODE, call.of(net, node, 0));
                checks.due("0, " + node + of, Due.NO_SUCH_NODE, call.of(net, 0, node));
                checks.due(node + " twice" + of, Due.NO_SUCH_NODE, call.of(net, node, node));
            }
            boolean taken = call.of(net, 0, n - 1) != Due.NO_SUCH_NODE
                    && call.of(net, n - 1, 0) != Due.NO_SUCH_NODE;
            checks.holds("first and last of " + n + " nodes are nodes", taken);
        }
    }

    static void sameNode(Checks checks, PairCall call) {
        for (int n : SIZES) {
            NetworkCoordinates net = Nets.allKnown(n, 100);
            for (int node = 0; node < n; node++) {
                checks.due(node + " twice", Due.SAME_NODE, call.of(net, node, node));
            }
            boolean taken = call.of(net, 0, 1) != Due.SAME_NODE
                    && call.of(net, 1, 0) != Due.SAME_NODE;
            checks.holds("0 and 1 are different", taken);
        }
    }

    static void unknownRtt(Checks checks, PairCall call) {
        NetworkCoordinates net = Nets.allKnown(4, 1);
        net.setRtt(1, 3, 0);
        checks.due("1, 3 made unknown", Due.UNKNOWN_RTT, call.of(net, 1, 3));
        checks.due("3, 1 made unknown", Due.UNKNOWN_RTT, call.of(net, 3, 1));
        boolean taken = call.of(net, 1, 2) != Due.UNKNOWN_RTT
                && call.of(net, 2, 1) != Due.UNKNOWN_RTT;
        checks.holds("1 and 2 are known, though only just", taken);
        net.reset(4);
        for (int a = 0; a < 4; a++) {
            for (int b = 0; b < 4; b++) {
                if (a != b) {
                    checks.due(a + ", " + b + " never set", Due.UNKNOWN_RTT, call.of(net, a, b));
                }
            }
        }
    }
}
