/** Promises 14 to 16 and 26: measurements, rounds, and the move that a measurement would make. */
public final class MeasurementsTest {
    private static final int NO_SUCH_NODE = -1000001;
    private static final int OUT_OF_RANGE = -1000002;
    private static final int SAME_NODE = -1000003;
    private static final int UNKNOWN_RTT = -1000004;
    private static final Checks CHECKS = new Checks();

    public static void main(String[] args) {
        measureAtTheSamePlace();
        measureWithDifferentErrors();
        measureAddsTheLieOfTheOther();
        divisionsRoundTowardZero();
        stepIsLimitedBothWays();
        stepMayBeAsLongAsTheMaximum();
        gainsAreUsedEachForItsOwn();
        sampleErrorIsAtMost1000();
        errorIsAtLeast1();
        positionsAreLimited();
        heightIsLimited();
        onlyHeightsApart();
        greatestDistances();
        measureFaults();
        run();
        runTakesTheFirstOffsetAfterReset();
        runUpdatesOneAfterTheOther();
        runFaults();
        move();
        moveIsLimitedLikeThePosition();
        moveFaults();
        CHECKS.end();
    }

    private static NetworkCoordinates two(int x, int y, int height, int otherHeight, int rtt) {
        NetworkCoordinates net = new NetworkCoordinates();
        net.reset(2);
        net.place(0, x, y, height);
        net.place(1, 0, 0, otherHeight);
        net.setRtt(0, 1, rtt);
        return net;
    }

    private static void nodeDue(String when, NetworkCoordinates net, int node, int[] due) {
        CHECKS.due(when + ": x(" + node + ")", due[0], net.x(node));
        CHECKS.due(when + ": y(" + node + ")", due[1], net.y(node));
        CHECKS.due(when + ": height(" + node + ")", due[2], net.height(node));
        CHECKS.due(when + ": error(" + node + ")", due[3], net.error(node));
    }

    private static void measureAtTheSamePlace() {
        NetworkCoordinates net = two(70, 80, 0, 0, 300);
        net.place(1, 70, 80, 0);
        CHECKS.due("same place: measure(0, 1)", 300, net.measure(0, 1));
        nodeDue("same place", net, 0, new int[] {107, 80, 0, 1000});
        nodeDue("same place", net, 1, new int[] {70, 80, 0, 1000});
    }

    private static void measureWithDifferentErrors() {
        NetworkCoordinates net = two(300, 400, 10, 20, 1000);
        CHECKS.due("different errors: measure(0, 1)", 1000, net.measure(0, 1));
        CHECKS.due("different errors: measure(1, 0)", 1000, net.measure(1, 0));
        nodeDue("different errors", net, 0, new int[] {332, 443, 13, 933});
        nodeDue("different errors", net, 1, new int[] {-30, -40, 22, 924});
    }

    private static void measureAddsTheLieOfTheOther() {
        NetworkCoordinates net = two(5, 0, 0, 0, 100);
        net.setLie(1, 50);
        CHECKS.due("lie: measure(1, 0)", 100, net.measure(1, 0));
        CHECKS.due("lie: x(1)", -11, net.x(1));
        net.place(1, 0, 0, 0);
        CHECKS.due("lie: measure(0, 1)", 150, net.measure(0, 1));
        // The step is (150 - 5) * 125 / 1000 = 18, the sample error 1000 * 145 / 150 = 966.
        nodeDue("lie", net, 0, new int[] {23, 0, 0, 995});
        CHECKS.due("lie: the sum of both limits", 40000, greatestSample());
    }

    private static int greatestSample() {
        NetworkCoordinates net = two(0, 0, 0, 0, 20000);
        net.setLie(1, 20000);
        return net.measure(0, 1);
    }

    private static void divisionsRoundTowardZero() {
        NetworkCoordinates net = two(3, -4, 0, 0, 100);
        net.measure(0, 1);
        nodeDue("away", net, 0, new int[] {9, -12, 0, 993});
        net = two(-30, 40, 10, 3, 1);
        // d is 63 and the step -62 * 125 / 1000 = -7; x changes by 210 / 63, y by -280 / 63,
        // the height by -91 / 63.
        net.measure(0, 1);
        nodeDue("nearer", net, 0, new int[] {-27, 36, 9, 1000});
    }

    private static void stepIsLimitedBothWays() {
        NetworkCoordinates net = two(10000, 0, 0, 0, 1);
        net.setMaxStep(50);
        net.measure(0, 1);
        CHECKS.due("limited nearer: x(0)", 9950, net.x(0));
        net = two(10000, 0, 0, 0, 20000);
        net.setMaxStep(50);
        net.measure(0, 1);
        CHECKS.due("limited away: x(0)", 10050, net.x(0));
        net = two(0, 0, 0, 0, 20000);
        net.setMaxStep(1);
        net.measure(0, 1);
        CHECKS.due("limited to 1: x(0)", 1, net.x(0));
        net = two(0, 0, 0, 0, 20000);
        net.setGains(1, 1000);
        net.measure(0, 1);
        CHECKS.due("limited to the initial 2000: x(0)", 2000, net.x(0));
    }

    private static void stepMayBeAsLongAsTheMaximum() {
        NetworkCoordinates net = two(0, 0, 0, 0, 20000);
        net.setLie(1, 20000);
        net.setGains(1, 1000);
        net.setMaxStep(20000);
        net.measure(0, 1);
        CHECKS.due("the longest step: x(0)", 20000, net.x(0));
    }

    private static void gainsAreUsedEachForItsOwn() {
        NetworkCoordinates net = two(3, -4, 0, 0, 100);
        net.setGains(1000, 40);
        // The weight is 500: the error becomes (950 * 500 + 1000 * 500) / 1000, the step 95 * 20 / 1000.
        net.measure(0, 1);
        nodeDue("gains 1000 and 40", net, 0, new int[] {3, -4, 0, 975});
        net = two(3, -4, 0, 0, 100);
        net.setGains(40, 1000);
        net.measure(0, 1);
        nodeDue("gains 40 and 1000", net, 0, new int[] {31, -41, 0, 999});
        net = two(3, -4, 0, 0, 100);
        net.setGains(1, 1);
        net.measure(0, 1);
        nodeDue("gains 1 and 1", net, 0, new int[] {3, -4, 0, 1000});
    }

    private static void sampleErrorIsAtMost1000() {
        NetworkCoordinates net = two(100, 0, 0, 0, 1);
        net.measure(0, 1);
        CHECKS.due("sample error 99000: error(0)", 1000, net.error(0));
        net = two(200, 0, 0, 0, 100);
        net.measure(0, 1);
        CHECKS.due("sample error 1000: error(0)", 1000, net.error(0));
        net = two(199, 0, 0, 0, 100);
        net.measure(0, 1);
        CHECKS.due("sample error 990: error(0)", 998, net.error(0));
    }

    private static void errorIsAtLeast1() {
        NetworkCoordinates net = two(100, 0, 0, 0, 100);
        net.setGains(1000, 1000);
        net.measure(0, 1);
        CHECKS.due("exact: error(0)", 500, net.error(0));
        net.measure(1, 0);
        CHECKS.due("exact: error(1)", 334, net.error(1));
        CHECKS.due("exact: run(100)", 200, net.run(100));
        nodeDue("exact", net, 0, new int[] {100, 0, 0, 1});
        nodeDue("exact", net, 1, new int[] {0, 0, 0, 1});
    }

    private static void positionsAreLimited() {
        limited("right", 100000, 0, 99999, 0);
        limited("left", -100000, 0, -99999, 0);
        limited("up", 0, 100000, 0, 99999);
        limited("down", 0, -100000, 0, -99999);
        NetworkCoordinates net = two(99999, 0, 0, 0, 20000);
        net.place(1, 99999, 0, 0);
        net.setMaxStep(2);
        net.measure(0, 1);
        CHECKS.due("same place at the edge: x(0)", 100000, net.x(0));
    }

    private static void limited(String where, int x, int y, int otherX, int otherY) {
        NetworkCoordinates net = two(x, y, 0, 0, 20000);
        net.place(1, otherX, otherY, 0);
        net.measure(0, 1);
        nodeDue(where, net, 0, new int[] {x, y, 0, 999});
        net.measure(1, 0);
        CHECKS.holds(where + ": the other goes away", net.predict(0, 1) > 1000);
    }

    private static void heightIsLimited() {
        NetworkCoordinates net = two(0, 0, 1, 10000, 1);
        net.setGains(1000, 1000);
        net.measure(0, 1);
        nodeDue("height 1", net, 0, new int[] {0, 0, 0, 1000});
        net.measure(1, 0);
        nodeDue("height 10000", net, 1, new int[] {0, 0, 8000, 1000});
    }

    private static void onlyHeightsApart() {
        NetworkCoordinates net = two(0, 0, 10, 30, 200);
        net.measure(0, 1);
        // d is 40, the step 160 * 125 / 1000 = 20.
        nodeDue("only heights", net, 0, new int[] {0, 0, 30, 975});
    }

    private static void greatestDistances() {
        NetworkCoordinates net = two(100000, -100000, 100000, 100000, 1);
        net.place(1, -100000, 100000, 100000);
        net.setMaxStep(20000);
        net.measure(0, 1);
        // The step is -20000 and d 482842; 20000 * 200000 is beyond 32 bits.
        nodeDue("greatest", net, 0, new int[] {91716, -91716, 91716, 1000});
    }

    private static void measureFaults() {
        NetworkCoordinates net = new NetworkCoordinates();
        net.setRtt(0, 1, 20);
        for (int node : Edges.notNodes(5)) {
            CHECKS.due("measure(" + node + ", 0)", NO_SUCH_NODE, net.measure(node, 0));
            CHECKS.due("measure(0, " + node + ")", NO_SUCH_NODE, net.measure(0, node));
            CHECKS.due("measure(" + node + " twice)", NO_SUCH_NODE, net.measure(node, node));
        }
        CHECKS.due("measure(2, 2)", SAME_NODE, net.measure(2, 2));
        CHECKS.due("measure(1, 2)", UNKNOWN_RTT, net.measure(1, 2));
        net.setRtt(0, 1, 0);
        CHECKS.due("measure(0, 1) made unknown", UNKNOWN_RTT, net.measure(0, 1));
        CHECKS.due("roundCounter() counts no single measurement", 0, net.roundCounter());
    }

    /** Promises 15 and 16. */
    private static void run() {
        NetworkCoordinates net = new NetworkCoordinates();
        net.reset(4);
        net.setRtt(0, 1, 800);
        CHECKS.due("run(1), 0 measures 1", 1, net.run(1));
        nodeDue("run(1)", net, 0, new int[] {100, 0, 0, 1000});
        nodeDue("run(1)", net, 1, new int[] {0, 0, 0, 1000});
        CHECKS.due("run(1), nobody measures", 0, net.run(1));
        CHECKS.due("roundCounter()", 2, net.roundCounter());
        CHECKS.due("x(0)", 100, net.x(0));
        CHECKS.due("run(1), 1 measures 0", 1, net.run(1));
        CHECKS.due("x(0)", 100, net.x(0));
        CHECKS.due("x(1)", -87, net.x(1));
        CHECKS.due("roundCounter()", 3, net.roundCounter());
        CHECKS.due("run(3)", 2, net.run(3));
        CHECKS.due("roundCounter()", 6, net.roundCounter());
        CHECKS.due("run(100)", 67, net.run(100));
        CHECKS.due("roundCounter()", 106, net.roundCounter());
        net.reset(10);
        for (int a = 0; a < 10; a++) {
            for (int b = a + 1; b < 10; b++) {
                net.setRtt(a, b, 100);
            }
        }
        CHECKS.due("run(100) of all pairs", 1000, net.run(100));
        CHECKS.due("roundCounter()", 100, net.roundCounter());
    }

    private static void runTakesTheFirstOffsetAfterReset() {
        NetworkCoordinates net = new NetworkCoordinates();
        net.run(1);
        net.reset(5);
        CHECKS.due("roundCounter() after reset", 0, net.roundCounter());
        net.setRtt(0, 1, 800);
        CHECKS.due("run(1) after reset", 1, net.run(1));
        CHECKS.due("x(0) after reset", 100, net.x(0));
    }

    private static void runUpdatesOneAfterTheOther() {
        NetworkCoordinates net = two(0, 0, 0, 0, 300);
        CHECKS.due("run(1) of two", 2, net.run(1));
        CHECKS.due("x(0)", 37, net.x(0));
        CHECKS.due("x(1)", -32, net.x(1));
        CHECKS.due("run(100) of two", 200, net.run(100));
    }

    private static void runFaults() {
        NetworkCoordinates net = new NetworkCoordinates();
        net.setRtt(0, 1, 800);
        CHECKS.due("run(0)", OUT_OF_RANGE, net.run(0));
        for (int rounds : Edges.beyond(1, 100)) {
            CHECKS.due("run(" + rounds + ")", OUT_OF_RANGE, net.run(rounds));
        }
        CHECKS.due("roundCounter() after refused ones", 0, net.roundCounter());
        CHECKS.due("x(0) after refused ones", 0, net.x(0));
    }

    /** Promise 26. */
    private static void move() {
        NetworkCoordinates net = two(300, 400, 10, 20, 1000);
        // To 332, 443: the square root of 32 * 32 + 43 * 43.
        CHECKS.due("move(0, 1)", 53, net.move(0, 1));
        nodeDue("move", net, 0, new int[] {300, 400, 10, 1000});
        nodeDue("move", net, 1, new int[] {0, 0, 20, 1000});
        net.setLie(1, 1000);
        // The step is 183: to 300 + 54900 / 530 and 400 + 73200 / 530.
        CHECKS.due("move(0, 1) with the lie of 1", 172, net.move(0, 1));
        // 1 doesn't see its own lie: its step is 58, to -17400 / 530 and -23200 / 530.
        CHECKS.due("move(1, 0)", 53, net.move(1, 0));
        CHECKS.due("roundCounter()", 0, net.roundCounter());
        net = two(0, 0, 10, 30, 200);
        CHECKS.due("move(0, 1), the height is no move", 0, net.move(0, 1));
        net = two(0, 0, 0, 0, 300);
        CHECKS.due("move(0, 1) from the same place", 37, net.move(0, 1));
    }

    private static void moveIsLimitedLikeThePosition() {
        NetworkCoordinates net = two(99998, 0, 0, 0, 20000);
        net.place(1, 99990, 0, 0);
        CHECKS.due("move(0, 1) to the edge", 2, net.move(0, 1));
        CHECKS.due("move(1, 0) from the edge", 2000, net.move(1, 0));
        net.setMaxStep(1);
        CHECKS.due("move(0, 1) within the maximum step", 1, net.move(0, 1));
    }

    private static void moveFaults() {
        NetworkCoordinates net = new NetworkCoordinates();
        for (int node : Edges.notNodes(5)) {
            CHECKS.due("move(" + node + ", 0)", NO_SUCH_NODE, net.move(node, 0));
            CHECKS.due("move(0, " + node + ")", NO_SUCH_NODE, net.move(0, node));
            CHECKS.due("move(" + node + " twice)", NO_SUCH_NODE, net.move(node, node));
        }
        CHECKS.due("move(2, 2)", SAME_NODE, net.move(2, 2));
        CHECKS.due("move(1, 2)", UNKNOWN_RTT, net.move(1, 2));
    }
}
