/** Promises 9 to 13: what a caller reads of nodes, and the prediction. */
public final class NodesTest {
    private static final int NO_SUCH_NODE = -1000001;
    private static final int SAME_NODE = -1000003;
    private static final Checks CHECKS = new Checks();

    public static void main(String[] args) {
        nodes();
        nodesAfterReset();
        predict();
        predictRoundsTheRootDown();
        CHECKS.end();
    }

    /** Promises 9 to 12; the error estimate is worked out in MeasurementsTest. */
    private static void nodes() {
        NetworkCoordinates net = new NetworkCoordinates();
        net.place(0, 1, -2, 3);
        net.place(4, -5, 6, 7);
        net.setRtt(4, 0, 100);
        net.measure(4, 0);
        net.place(4, -5, 6, 7);
        net.setRtt(2, 3, 1);
        net.place(2, 1, 0, 0);
        net.measure(2, 3);
        CHECKS.due("x(0)", 1, net.x(0));
        CHECKS.due("x(4)", -5, net.x(4));
        CHECKS.due("y(0)", -2, net.y(0));
        CHECKS.due("y(4)", 6, net.y(4));
        CHECKS.due("height(0)", 3, net.height(0));
        CHECKS.due("height(4)", 7, net.height(4));
        CHECKS.due("error(0)", 1000, net.error(0));
        CHECKS.due("error(2)", 875, net.error(2));
        CHECKS.due("error(3)", 1000, net.error(3));
        CHECKS.due("error(4)", 1000, net.error(4));
        notNodes(net, 5);
    }

    private static void notNodes(NetworkCoordinates net, int n) {
        for (int node : Edges.notNodes(n)) {
            CHECKS.due("x(" + node + ")", NO_SUCH_NODE, net.x(node));
            CHECKS.due("y(" + node + ")", NO_SUCH_NODE, net.y(node));
            CHECKS.due("height(" + node + ")", NO_SUCH_NODE, net.height(node));
            CHECKS.due("error(" + node + ")", NO_SUCH_NODE, net.error(node));
        }
    }

    private static void nodesAfterReset() {
        NetworkCoordinates net = new NetworkCoordinates();
        net.reset(10);
        net.place(9, 11, 12, 13);
        CHECKS.due("x(9) of 10", 11, net.x(9));
        CHECKS.due("y(9) of 10", 12, net.y(9));
        CHECKS.due("height(9) of 10", 13, net.height(9));
        notNodes(net, 10);
        net.reset(2);
        notNodes(net, 2);
    }

    /** Promise 13. */
    private static void predict() {
        NetworkCoordinates net = new NetworkCoordinates();
        CHECKS.due("predict(0, 1) of initial nodes", 0, net.predict(0, 1));
        net.place(0, 300, -400, 10);
        net.place(1, 0, 0, 20);
        CHECKS.due("predict(0, 1)", 530, net.predict(0, 1));
        CHECKS.due("predict(1, 0)", 530, net.predict(1, 0));
        net.setLie(1, 700);
        net.setRtt(0, 1, 9);
        CHECKS.due("predict(0, 1) whatever was measured", 530, net.predict(0, 1));
        net.place(3, 100000, 100000, 100000);
        net.place(4, -100000, -100000, 100000);
        CHECKS.due("predict(3, 4), the greatest", 482842, net.predict(3, 4));
        for (int node : Edges.notNodes(5)) {
            CHECKS.due("predict(" + node + ", 0)", NO_SUCH_NODE, net.predict(node, 0));
            CHECKS.due("predict(0, " + node + ")", NO_SUCH_NODE, net.predict(0, node));
            CHECKS.due("predict(" + node + " twice)", NO_SUCH_NODE, net.predict(node, node));
        }
        CHECKS.due("predict(0, 0)", SAME_NODE, net.predict(0, 0));
        CHECKS.due("predict(4, 4)", SAME_NODE, net.predict(4, 4));
    }

    private static void predictRoundsTheRootDown() {
        NetworkCoordinates net = new NetworkCoordinates();
        due(net, 1, 1, 1);
        due(net, 1, 2, 2);
        due(net, 2, 2, 2);
        due(net, 3, 0, 3);
        due(net, 20, 21, 29);
        due(net, 7, 7, 9);
        due(net, -100000, 1, 100000);
        due(net, -99999, 448, 100000);
        due(net, -99999, 447, 99999);
    }

    private static void due(NetworkCoordinates net, int x, int y, int distance) {
        net.place(0, x, y, 0);
        CHECKS.due("predict from " + x + ", " + y, distance, net.predict(0, 1));
        CHECKS.due("predict to " + x + ", " + y, distance, net.predict(1, 0));
    }
}
