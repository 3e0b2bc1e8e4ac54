/** Promises 17 to 21: relative errors, the nearest nodes and relays. */
public final class QualityTest {
    private static final int NO_SUCH_NODE = -1000001;
    private static final int OUT_OF_RANGE = -1000002;
    private static final int SAME_NODE = -1000003;
    private static final int UNKNOWN_RTT = -1000004;
    private static final int NONE = -1000005;
    private static final Checks CHECKS = new Checks();

    public static void main(String[] args) {
        meanError();
        meanErrorOfTheGreatest();
        worstPair();
        relativeError();
        nearest();
        nearestWithHeights();
        nearestFaults();
        relay();
        relayFaults();
        CHECKS.end();
    }

    /** Promise 17. */
    private static void meanError() {
        NetworkCoordinates net = new NetworkCoordinates();
        CHECKS.due("meanError() without any rtt", NONE, net.meanError());
        net.setRtt(3, 4, 10);
        CHECKS.due("meanError() at the same place", 1000, net.meanError());
        net.place(1, 20, 0, 0);
        net.place(2, 20, 0, 0);
        net.setRtt(0, 1, 30);
        net.setRtt(2, 0, 20);
        net.setLie(0, 9);
        net.setLie(1, 9);
        net.setLie(4, 9);
        CHECKS.due("meanError() of 1000, 333 and 0", 444, net.meanError());
        net.setRtt(3, 4, 0);
        CHECKS.due("meanError() of 333 and 0", 166, net.meanError());
        net.setRtt(0, 1, 0);
        CHECKS.due("meanError() of 0", 0, net.meanError());
        net.setRtt(0, 2, 0);
        CHECKS.due("meanError() of made unknown ones", NONE, net.meanError());
    }

    private static void meanErrorOfTheGreatest() {
        NetworkCoordinates net = new NetworkCoordinates();
        net.reset(10);
        for (int a = 0; a < 10; a++) {
            int corner = a % 2 == 0 ? 100000 : -100000;
            net.place(a, corner, corner, 100000);
            for (int b = a + 1; b < 10; b++) {
                net.setRtt(a, b, 1);
            }
        }
        // 25 pairs with 482841000 and 20 with 199999000.
        CHECKS.due("the greatest meanError()", 357133444, net.meanError());
        CHECKS.due("the greatest relativeError", 482841000, net.relativeError(0, 1));
        CHECKS.due("worstPair() of 25 equal ones", 1, net.worstPair());
    }

    /** Promise 18. */
    private static void worstPair() {
        NetworkCoordinates net = new NetworkCoordinates();
        CHECKS.due("worstPair() without any rtt", NONE, net.worstPair());
        net.place(4, 20, 0, 0);
        net.setRtt(4, 0, 20);
        CHECKS.due("worstPair() with error 0", 4, net.worstPair());
        net.setRtt(4, 1, 30);
        CHECKS.due("worstPair() with error 333", 14, net.worstPair());
        net.setRtt(4, 2, 30);
        CHECKS.due("worstPair() of two equal ones", 14, net.worstPair());
        net.setRtt(3, 2, 1);
        CHECKS.due("worstPair() with error 1000", 23, net.worstPair());
        net.setRtt(1, 3, 1);
        CHECKS.due("worstPair() of 13 and 23", 13, net.worstPair());
        net.setRtt(4, 3, 9);
        CHECKS.due("worstPair(), predicted too great", 34, net.worstPair());
        net.setLie(3, 11);
        net.setLie(4, 11);
        CHECKS.due("worstPair() without any lie", 34, net.worstPair());
        net.reset(10);
        net.setRtt(9, 8, 1);
        CHECKS.due("worstPair(), the last of 10 nodes", 89, net.worstPair());
    }

    /** Promise 19. */
    private static void relativeError() {
        NetworkCoordinates net = new NetworkCoordinates();
        net.place(0, 3, 4, 10);
        net.place(1, 0, 0, 20);
        net.setRtt(0, 1, 36);
        CHECKS.due("relativeError(0, 1), less", 27, net.relativeError(0, 1));
        CHECKS.due("relativeError(1, 0)", 27, net.relativeError(1, 0));
        net.setRtt(0, 1, 35);
        CHECKS.due("relativeError(0, 1), exact", 0, net.relativeError(0, 1));
        net.setLie(0, 5);
        net.setLie(1, 5);
        CHECKS.due("relativeError(0, 1) without any lie", 0, net.relativeError(0, 1));
        net.setRtt(0, 1, 3);
        CHECKS.due("relativeError(0, 1), more", 10666, net.relativeError(0, 1));
        net.setRtt(0, 1, 20000);
        CHECKS.due("relativeError(0, 1) of the longest rtt", 998, net.relativeError(0, 1));
        for (int node : Edges.notNodes(5)) {
            CHECKS.due("relativeError(" + node + ", 0)", NO_SUCH_NODE, net.relativeError(node, 0));
            CHECKS.due("relativeError(0, " + node + ")", NO_SUCH_NODE, net.relativeError(0, node));
            CHECKS.due("relativeError(" + node + " twice)", NO_SUCH_NODE,
                    net.relativeError(node, node));
        }
        CHECKS.due("relativeError(2, 2)", SAME_NODE, net.relativeError(2, 2));
        CHECKS.due("relativeError(1, 2)", UNKNOWN_RTT, net.relativeError(1, 2));
    }

    /** Promise 20. */
    private static void nearest() {
        NetworkCoordinates net = new NetworkCoordinates();
        ranks("the same place", net, 2, new int[] {0, 1, 3, 4});
        net.place(0, 50, 0, 0);
        net.place(1, 0, 30, 0);
        net.place(3, 0, -30, 0);
        net.place(4, -7, 0, 0);
        ranks("different places", net, 2, new int[] {4, 1, 3, 0});
        net.setRtt(2, 0, 1);
        ranks("whatever the rtts", net, 2, new int[] {4, 1, 3, 0});
        ranks("from another node", net, 0, new int[] {2, 4, 1, 3});
    }

    private static void ranks(String when, NetworkCoordinates net, int node, int[] due) {
        for (int rank = 0; rank < due.length; rank++) {
            String call = when + ": nearest(" + node + ", " + rank + ")";
            CHECKS.due(call, due[rank], net.nearest(node, rank));
        }
        CHECKS.due(when + ": rank " + due.length, OUT_OF_RANGE, net.nearest(node, due.length));
    }

    private static void nearestWithHeights() {
        NetworkCoordinates net = new NetworkCoordinates();
        net.reset(4);
        net.place(1, 10, 0, 50);
        net.place(2, 40, 0, 0);
        net.place(3, 20, 0, 20);
        ranks("heights", net, 0, new int[] {2, 3, 1});
        net.reset(2);
        ranks("two nodes", net, 0, new int[] {1});
        ranks("two nodes", net, 1, new int[] {0});
        net.reset(10);
        ranks("ten nodes", net, 9, new int[] {0, 1, 2, 3, 4, 5, 6, 7, 8});
    }

    private static void nearestFaults() {
        NetworkCoordinates net = new NetworkCoordinates();
        for (int node : Edges.notNodes(5)) {
            CHECKS.due("nearest(" + node + ", 0)", NO_SUCH_NODE, net.nearest(node, 0));
            CHECKS.due("nearest(" + node + ", 9)", NO_SUCH_NODE, net.nearest(node, 9));
        }
        for (int rank : Edges.beyond(0, 3)) {
            CHECKS.due("nearest(1, " + rank + ")", OUT_OF_RANGE, net.nearest(1, rank));
        }
    }

    /** Promise 21. */
    private static void relay() {
        NetworkCoordinates net = new NetworkCoordinates();
        CHECKS.due("relay(0, 1) at the same place", 2, net.relay(0, 1));
        CHECKS.due("relay(2, 4) at the same place", 0, net.relay(2, 4));
        net.place(0, 0, 0, 0);
        net.place(1, 100, 0, 0);
        net.place(2, 50, 0, 30);
        net.place(3, 50, 25, 0);
        net.place(4, -1, 0, 0);
        // By 2: 80 + 80; by 3: 55 + 55; by 4: 1 + 101.
        CHECKS.due("relay(0, 1)", 4, net.relay(0, 1));
        CHECKS.due("relay(1, 0)", 4, net.relay(1, 0));
        net.place(4, -6, 0, 0);
        CHECKS.due("relay(0, 1), 4 too far", 3, net.relay(0, 1));
        net.place(4, -5, 0, 0);
        CHECKS.due("relay(0, 1) of two equal ones", 3, net.relay(0, 1));
        net.reset(3);
        net.place(0, 100000, 100000, 100000);
        net.place(1, 100000, 100000, 100000);
        net.place(2, -100000, -100000, 100000);
        CHECKS.due("relay(0, 1), the longest way", 2, net.relay(0, 1));
    }

    private static void relayFaults() {
        NetworkCoordinates net = new NetworkCoordinates();
        faultsOfRelay(net, 5);
        net.reset(2);
        faultsOfRelay(net, 2);
        CHECKS.due("relay(0, 1) of two nodes", NONE, net.relay(0, 1));
        CHECKS.due("relay(1, 0) of two nodes", NONE, net.relay(1, 0));
        net.reset(3);
        CHECKS.due("relay(1, 2) of three nodes", 0, net.relay(1, 2));
    }

    private static void faultsOfRelay(NetworkCoordinates net, int n) {
        for (int node : Edges.notNodes(n)) {
            CHECKS.due("relay(" + node + ", 0)", NO_SUCH_NODE, net.relay(node, 0));
            CHECKS.due("relay(0, " + node + ")", NO_SUCH_NODE, net.relay(0, node));
            CHECKS.due("relay(" + node + " twice)", NO_SUCH_NODE, net.relay(node, node));
        }
        CHECKS.due("relay(1, 1) of " + n, SAME_NODE, net.relay(1, 1));
    }
}
