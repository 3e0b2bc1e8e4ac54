/** Promises 14, 15 and 26: measurements, rounds, and the move that a measurement would make. */
public final class MeasuringSentencesTest {
    public static void main(String[] args) {
        Sentences.run(MeasuringSentencesTest.class);
    }

    @Sentence(in = "Promise 14", words = "Lets node a measure node b once")
    static void p14MeasuresOnce(Checks checks) {
        NetworkCoordinates net = Nets.apart(0, 800);
        net.measure(0, 1);
        checks.due("x(0) after one", 100, net.x(0));
        checks.due("x(1) after one", 0, net.x(1));
        // s - d is 700, and 87 the step.
        net.measure(0, 1);
        checks.due("x(0) after two", 187, net.x(0));
        net.measure(1, 0);
        checks.holds("x(1) after its own", net.x(1) < 0);
        checks.due("x(0) after that of 1", 187, net.x(0));
    }

    @Sentence(in = "Promise 14", words = "Returns the sample")
    static void p14ReturnsTheSample(Checks checks) {
        NetworkCoordinates net = Nets.apart(0, 1);
        checks.due("measure(0, 1), the smallest", 1, net.measure(0, 1));
        net.setRtt(0, 1, 20000);
        checks.due("measure(0, 1) without a lie", 20000, net.measure(0, 1));
        net.setLie(1, 20000);
        checks.due("measure(0, 1), the greatest", 40000, net.measure(0, 1));
        checks.due("measure(1, 0) without the own lie", 20000, net.measure(1, 0));
    }

    @Sentence(in = "Promise 14", words = "NO_SUCH_NODE if a or b is not a node (checked first)")
    static void p14NoSuchNode(Checks checks) {
        Refusals.noSuchNodes(checks, NetworkCoordinates::measure);
    }

    @Sentence(in = "Promise 14", words = "SAME_NODE if a equals b (checked second)")
    static void p14SameNode(Checks checks) {
        Refusals.sameNode(checks, NetworkCoordinates::measure);
    }

    @Sentence(in = "Promise 14", words = "UNKNOWN_RTT if the rtt of the pair is unknown")
    static void p14UnknownRtt(Checks checks) {
        Refusals.unknownRtt(checks, NetworkCoordinates::measure);
        NetworkCoordinates net = Nets.of(2);
        net.setLie(1, 50);
        checks.due("measure(0, 1) of a lie alone", Due.UNKNOWN_RTT, net.measure(0, 1));
        Nets.nodeDue(checks, net, 0, 0, 0, 0, 1000);
    }

    @Sentence(in = "Promise 15", words = "Runs rounds")
    static void p15RunsRounds(Checks checks) {
        NetworkCoordinates net = Nets.allKnown(4, 800);
        NetworkCoordinates other = Nets.allKnown(4, 800);
        net.run(7);
        for (int i = 0; i < 7; i++) {
            other.run(1);
        }
        String difference = new Picture(other, 4).difference(net);
        checks.due("run(7) is as seven of run(1) " + difference, 0, difference.length());
        checks.due("roundCounter()", 7, net.roundCounter());
        // By hand: in round 0 each node measures the next one, in round 1 the next but one.
        NetworkCoordinates byHand = Nets.allKnown(4, 800);
        int[][] pairs = {{0, 1}, {1, 2}, {2, 3}, {3, 0}, {0, 2}, {1, 3}, {2, 0}, {3, 1}};
        for (int[] pair : pairs) {
            byHand.measure(pair[0], pair[1]);
        }
        net = Nets.allKnown(4, 800);
        net.run(2);
        for (int node = 0; node < 4; node++) {
            Nets.nodeDue(checks, net, node, byHand.x(node), byHand.y(node), byHand.height(node),
                    byHand.error(node));
        }
    }

    @Sentence(in = "Promise 15", words = "`rounds`: 1 to 100")
    static void p15From1To100(Checks checks) {
        NetworkCoordinates net = Nets.allKnown(5, 9);
        checks.due("run(1)", 5, net.run(1));
        checks.due("roundCounter() after run(1)", 1, net.roundCounter());
        checks.due("run(100)", 500, net.run(100));
        checks.due("roundCounter() after run(100)", 101, net.roundCounter());
    }

    @Sentence(in = "Promise 15", words = "Returns the number of measurements made")
    static void p15ReturnsTheMeasurementsMade(Checks checks) {
        checks.due("run(100) of nothing known", 0, Nets.of(10).run(100));
        checks.due("run(100) of all known", 1000, Nets.allKnown(10, 5).run(100));
        checks.due("run(1) of all known", 10, Nets.allKnown(10, 5).run(1));
        checks.due("run(100) of two", 200, Nets.allKnown(2, 5).run(100));
        NetworkCoordinates net = Nets.of(10);
        net.setRtt(0, 9, 5);
        checks.due("run(1), 9 measures 0", 1, net.run(1));
        checks.due("run(7), neither measures", 0, net.run(7));
        checks.due("run(1), 0 measures 9", 1, net.run(1));
        checks.due("run(9)", 2, net.run(9));
        net.setRtt(0, 9, 0);
        checks.due("run(9) of the pair made unknown", 0, net.run(9));
    }

    @Sentence(in = "Promise 15", words = "OUT_OF_RANGE if rounds is out of range")
    static void p15OutOfRange(Checks checks) {
        NetworkCoordinates net = Nets.apart(0, 800);
        for (int rounds : new int[] {0, -1, 101, 102, Integer.MIN_VALUE, Integer.MAX_VALUE}) {
            checks.due("run(" + rounds + ")", Due.OUT_OF_RANGE, net.run(rounds));
            checks.due("x(0)", 0, net.x(0));
            checks.due("roundCounter()", 0, net.roundCounter());
        }
    }

    @Sentence(in = "Promise 26",
            words = "Tells how far a node would move in one measurement")
    static void p26TellsHowFar(Checks checks) {
        NetworkCoordinates net = Nets.apart(0, 800);
        checks.due("move(0, 1)", 100, net.move(0, 1));
        checks.due("move(1, 0)", 100, net.move(1, 0));
        net.setLie(1, 80);
        checks.due("move(0, 1) with the lie of 1", 110, net.move(0, 1));
        checks.due("move(1, 0) with the lie of 1", 100, net.move(1, 0));
        net.setMaxStep(99);
        checks.due("move(0, 1) with the maximum step", 99, net.move(0, 1));
        net.setGains(1, 1);
        checks.due("move(0, 1) with the move gain 1", 0, net.move(0, 1));
        net = Nets.sure();
        net.place(1, 0, 0, 0);
        net.setRtt(0, 1, 1100);
        checks.due("move(0, 1), sure", 0, net.move(0, 1));
        checks.due("move(1, 0), unsure", 999, net.move(1, 0));
        // 0 stands at its limit, and 1 has room.
        net = Nets.two(100000, 0, 0, 0, 800);
        net.place(1, 99990, 0, 0);
        checks.due("move(0, 1) outwards", 0, net.move(0, 1));
        checks.due("move(1, 0) inwards", 98, net.move(1, 0));
    }

    @Sentence(in = "Promise 26", words = "without changing anything")
    static void p26ChangesNothing(Checks checks) {
        NetworkCoordinates net = Nets.changedEverywhere();
        Picture before = new Picture(net, 10);
        for (int a = 0; a < 10; a++) {
            net.move(a, (a + 3) % 10);
        }
        String difference = before.difference(net);
        checks.due("nothing is changed " + difference, 0, difference.length());
        checks.due("a slot without anything", Due.NOT_SAVED, net.restore(0));
    }

    @Sentence(in = "Promise 26", words = "the planar distance, by the formula above, between its "
            + "position before and after measure(a, b)")
    static void p26IsThePlanarDistance(Checks checks) {
        // From 300, 400 to 332, 443: the root of 32 * 32 + 43 * 43 = 2873 is 53.6; the height
        // changes too, and does not count.
        NetworkCoordinates net = Nets.two(300, 400, 10, 20, 1000);
        checks.due("move(0, 1), rounded down", 53, net.move(0, 1));
        net = Nets.two(0, 0, 10, 30, 200);
        checks.due("move(0, 1), upwards alone", 0, net.move(0, 1));
        net = Nets.two(-30, -40, 0, 0, 1);
        // The step is -6, to -27 and -36: 3 and 4.
        checks.due("move(0, 1), nearer", 5, net.move(0, 1));
        // The limits of the position hold for the move.
        net = Nets.apart(0, 20000);
        net.place(0, 99998, 0, 0);
        net.place(1, 99990, 0, 0);
        checks.due("move(0, 1) to the limit", 2, net.move(0, 1));
        net.place(0, 100000, 0, 0);
        checks.due("move(0, 1) at the limit", 0, net.move(0, 1));
        net.place(0, 100000, 100000, 100000);
        net.place(1, -100000, -100000, 0);
        net.setRtt(0, 1, 1);
        net.setMaxStep(20000);
        net.setGains(1000, 1000);
        checks.due("move(0, 1), the longest diagonal", 14775, net.move(0, 1));
    }

    @Sentence(in = "Promise 26", words = "Returns the distance")
    static void p26ReturnsTheDistance(Checks checks) {
        NetworkCoordinates net = Nets.apart(0, 20000);
        net.setLie(1, 20000);
        net.setGains(1, 1000);
        net.setMaxStep(20000);
        checks.due("move(0, 1), the greatest", 20000, net.move(0, 1));
        net = Nets.apart(500, 500);
        checks.due("move(0, 1), as predicted", 0, net.move(0, 1));
        net = Nets.apart(900, 500);
        checks.due("move(0, 1), nearer is no negative distance", 50, net.move(0, 1));
    }

    @Sentence(in = "Promise 26", words = "NO_SUCH_NODE if a or b is not a node (checked first)")
    static void p26NoSuchNode(Checks checks) {
        Refusals.noSuchNodes(checks, NetworkCoordinates::move);
    }

    @Sentence(in = "Promise 26", words = "SAME_NODE if a equals b (checked second)")
    static void p26SameNode(Checks checks) {
        Refusals.sameNode(checks, NetworkCoordinates::move);
    }

    @Sentence(in = "Promise 26", words = "UNKNOWN_RTT if the rtt of the pair is unknown")
    static void p26UnknownRtt(Checks checks) {
        Refusals.unknownRtt(checks, NetworkCoordinates::move);
        NetworkCoordinates net = Nets.of(2);
        net.setLie(1, 50);
        checks.due("move(0, 1) of a lie alone", Due.UNKNOWN_RTT, net.move(0, 1));
    }
}
