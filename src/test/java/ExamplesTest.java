/** The five examples of the document. */
public final class ExamplesTest {
    private static final Checks CHECKS = new Checks();

    public static void main(String[] args) {
        twoNodesAtTheSamePlace();
        positionsAndHeights();
        violatedTriangle();
        maximumStep();
        errorsAndTheNearestNode();
        CHECKS.end();
    }

    private static void twoNodesAtTheSamePlace() {
        NetworkCoordinates net = new NetworkCoordinates();
        CHECKS.due("1: setRtt(0, 1, 300)", 0, net.setRtt(0, 1, 300));
        CHECKS.due("1: measure(0, 1)", 300, net.measure(0, 1));
        CHECKS.due("1: x(0)", 37, net.x(0));
        CHECKS.due("1: error(0)", 1000, net.error(0));
        CHECKS.due("1: measure(1, 0)", 300, net.measure(1, 0));
        CHECKS.due("1: x(1)", -32, net.x(1));
        CHECKS.due("1: predict(0, 1)", 69, net.predict(0, 1));
    }

    private static void positionsAndHeights() {
        NetworkCoordinates net = new NetworkCoordinates();
        CHECKS.due("2: place(0, 300, 400, 10)", 1000, net.place(0, 300, 400, 10));
        CHECKS.due("2: place(1, 0, 0, 20)", 1000, net.place(1, 0, 0, 20));
        CHECKS.due("2: setRtt(0, 1, 1000)", 0, net.setRtt(0, 1, 1000));
        CHECKS.due("2: predict(0, 1)", 530, net.predict(0, 1));
        CHECKS.due("2: measure(0, 1)", 1000, net.measure(0, 1));
        CHECKS.due("2: x(0)", 332, net.x(0));
        CHECKS.due("2: y(0)", 443, net.y(0));
        CHECKS.due("2: height(0)", 13, net.height(0));
        CHECKS.due("2: error(0)", 933, net.error(0));
    }

    private static void violatedTriangle() {
        NetworkCoordinates net = new NetworkCoordinates();
        CHECKS.due("3: reset(3)", 5, net.reset(3));
        CHECKS.due("3: setRtt(0, 1, 100)", 0, net.setRtt(0, 1, 100));
        CHECKS.due("3: setRtt(1, 2, 100)", 0, net.setRtt(1, 2, 100));
        CHECKS.due("3: setRtt(0, 2, 500)", 0, net.setRtt(0, 2, 500));
        CHECKS.due("3: violations()", 1, net.violations());
        CHECKS.due("3: worstExcess()", 300, net.worstExcess());
        CHECKS.due("3: suspect()", 0, net.suspect());
    }

    private static void maximumStep() {
        NetworkCoordinates net = new NetworkCoordinates();
        CHECKS.due("4: setRtt(0, 1, 20000)", 0, net.setRtt(0, 1, 20000));
        CHECKS.due("4: setMaxStep(50)", 2000, net.setMaxStep(50));
        CHECKS.due("4: measure(0, 1)", 20000, net.measure(0, 1));
        CHECKS.due("4: x(0)", 50, net.x(0));
        CHECKS.due("4: move(0, 1)", 50, net.move(0, 1));
    }

    private static void errorsAndTheNearestNode() {
        NetworkCoordinates net = new NetworkCoordinates();
        CHECKS.due("5: rtt(0, 9)", -1000001, net.rtt(0, 9));
        CHECKS.due("5: rtt(1, 1)", -1000003, net.rtt(1, 1));
        CHECKS.due("5: rtt(0, 1)", -1000004, net.rtt(0, 1));
        CHECKS.due("5: measure(0, 1)", -1000004, net.measure(0, 1));
        CHECKS.due("5: nearest(0, 4)", -1000002, net.nearest(0, 4));
        CHECKS.due("5: nearest(0, 0)", 1, net.nearest(0, 0));
    }
}
