/** The five examples of the document. */
public final class ExamplesTest {
    public static void main(String[] args) {
        Sentences.run(ExamplesTest.class);
    }

    @Sentence(in = "Examples",
            words = "Two nodes at the same place measure each other: setRtt(0, 1, 300) = 0; "
            + "measure(0, 1) = 300; x(0) = 37; error(0) = 1000; measure(1, 0) = 300; x(1) = "
            + "-32; predict(0, 1) = 69")
    static void twoNodesAtTheSamePlace(Checks checks) {
        NetworkCoordinates net = new NetworkCoordinates();
        checks.due("setRtt(0, 1, 300)", 0, net.setRtt(0, 1, 300));
        checks.due("measure(0, 1)", 300, net.measure(0, 1));
        checks.due("x(0)", 37, net.x(0));
        checks.due("error(0)", 1000, net.error(0));
        checks.due("measure(1, 0)", 300, net.measure(1, 0));
        checks.due("x(1)", -32, net.x(1));
        checks.due("predict(0, 1)", 69, net.predict(0, 1));
    }

    @Sentence(in = "Examples",
            words = "An update with positions and heights: place(0, 300, 400, 10) = 1000; place(1, "
            + "0, 0, 20) = 1000; setRtt(0, 1, 1000) = 0; predict(0, 1) = 530; measure(0, 1) = "
            + "1000; x(0) = 332; y(0) = 443; height(0) = 13; error(0) = 933")
    static void positionsAndHeights(Checks checks) {
        NetworkCoordinates net = new NetworkCoordinates();
        checks.due("place(0, 300, 400, 10)", 1000, net.place(0, 300, 400, 10));
        checks.due("place(1, 0, 0, 20)", 1000, net.place(1, 0, 0, 20));
        checks.due("setRtt(0, 1, 1000)", 0, net.setRtt(0, 1, 1000));
        checks.due("predict(0, 1)", 530, net.predict(0, 1));
        checks.due("measure(0, 1)", 1000, net.measure(0, 1));
        checks.due("x(0)", 332, net.x(0));
        checks.due("y(0)", 443, net.y(0));
        checks.due("height(0)", 13, net.height(0));
        checks.due("error(0)", 933, net.error(0));
    }

    @Sentence(in = "Examples",
            words = "A violated triangle: reset(3) = 5; setRtt(0, 1, 100) = 0; setRtt(1, 2, 100) = "
            + "0; setRtt(0, 2, 500) = 0; violations() = 1; worstExcess() = 300; suspect() = 0")
    static void violatedTriangle(Checks checks) {
        NetworkCoordinates net = new NetworkCoordinates();
        checks.due("reset(3)", 5, net.reset(3));
        checks.due("setRtt(0, 1, 100)", 0, net.setRtt(0, 1, 100));
        checks.due("setRtt(1, 2, 100)", 0, net.setRtt(1, 2, 100));
        checks.due("setRtt(0, 2, 500)", 0, net.setRtt(0, 2, 500));
        checks.due("violations()", 1, net.violations());
        checks.due("worstExcess()", 300, net.worstExcess());
        checks.due("suspect()", 0, net.suspect());
    }

    @Sentence(in = "Examples",
            words = "The maximum step: setRtt(0, 1, 20000) = 0; setMaxStep(50) = 2000; measure(0, "
            + "1) = 20000; x(0) = 50; move(0, 1) = 50")
    static void maximumStep(Checks checks) {
        NetworkCoordinates net = new NetworkCoordinates();
        checks.due("setRtt(0, 1, 20000)", 0, net.setRtt(0, 1, 20000));
        checks.due("setMaxStep(50)", 2000, net.setMaxStep(50));
        checks.due("measure(0, 1)", 20000, net.measure(0, 1));
        checks.due("x(0)", 50, net.x(0));
        checks.due("move(0, 1)", 50, net.move(0, 1));
    }

    @Sentence(in = "Examples",
            words = "Errors, and the nearest node: rtt(0, 9) = -1000001; rtt(1, 1) = -1000003; "
            + "rtt(0, 1) = -1000004; measure(0, 1) = -1000004; nearest(0, 4) = -1000002; "
            + "nearest(0, 0) = 1")
    static void errorsAndTheNearestNode(Checks checks) {
        NetworkCoordinates net = new NetworkCoordinates();
        checks.due("rtt(0, 9)", -1000001, net.rtt(0, 9));
        checks.due("rtt(1, 1)", -1000003, net.rtt(1, 1));
        checks.due("rtt(0, 1)", -1000004, net.rtt(0, 1));
        checks.due("measure(0, 1)", -1000004, net.measure(0, 1));
        checks.due("nearest(0, 4)", -1000002, net.nearest(0, 4));
        checks.due("nearest(0, 0)", 1, net.nearest(0, 0));
    }
}
