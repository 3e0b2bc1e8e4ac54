/** The Description's UPDATE. Initially the weight is 500, so that ve and vm are 125. */
public final class UpdateSentencesTest {
    public static void main(String[] args) {
        Sentences.run(UpdateSentencesTest.class);
    }

    private static int xAfter(NetworkCoordinates net) {
        net.measure(0, 1);
        return net.x(0);
    }

    private static int errorAfter(NetworkCoordinates net) {
        net.measure(0, 1);
        return net.error(0);
    }

    private static NetworkCoordinates withGains(NetworkCoordinates net, int errorGain,
            int moveGain) {
        net.setGains(errorGain, moveGain);
        return net;
    }

    private static NetworkCoordinates withMaxStep(NetworkCoordinates net, int step) {
        net.setMaxStep(step);
        return net;
    }

    @Sentence(in = "UPDATE", words = "When node a measures node b, only node a changes")
    static void onlyNodeAChanges(Checks checks) {
        NetworkCoordinates net = Nets.allKnown(4, 700);
        for (int node = 0; node < 4; node++) {
            net.place(node, 10 * node, 20 * node, 5 + node);
            net.setLie(node, 100 + node);
        }
        net.measure(2, 1);
        Nets.nodeDue(checks, net, 0, 0, 0, 5, 1000);
        Nets.nodeDue(checks, net, 1, 10, 20, 6, 1000);
        Nets.nodeDue(checks, net, 3, 30, 60, 8, 1000);
        checks.holds("node 2 has moved", net.x(2) != 20 && net.y(2) != 40 && net.height(2) != 7);
        checks.holds("node 2 is surer", net.error(2) < 1000);
        for (int a = 0; a < 4; a++) {
            for (int b = a + 1; b < 4; b++) {
                checks.due("rtt(" + a + ", " + b + ")", 700, net.rtt(a, b));
            }
            checks.due("the lie of " + a, 100 + a, net.setLie(a, 0));
        }
        checks.due("roundCounter()", 0, net.roundCounter());
        checks.due("the gains", 2500250, net.setGains(1, 1));
        checks.due("the maximum step", 2000, net.setMaxStep(1));
    }

    @Sentence(in = "UPDATE", words = "Let s be the sample, d the predicted rtt, ea and eb the "
            + "error estimates of a and b")
    static void sampleAndPredictionAreThoseOfTheCall(Checks checks) {
        // s is 160 with the lie of 1, d is 80 with the heights; the step is 10.
        NetworkCoordinates net = Nets.two(30, 40, 10, 20, 100);
        net.setLie(0, 1000);
        net.setLie(1, 60);
        net.measure(0, 1);
        Nets.nodeDue(checks, net, 0, 33, 45, 13, 937);
        // Now ea is 1000 and eb 937, s is 1100 and d 88: the weight is 516, ve and vm are 129,
        // the step is 130, the sample error 920.
        net.measure(1, 0);
        Nets.nodeDue(checks, net, 1, -48, -66, 68, 989);
    }

    @Sentence(in = "UPDATE", words = "All of these are the values before the update")
    static void valuesAreThoseBeforeTheUpdate(Checks checks) {
        // With the new error estimate first, the step would be 9; with the new position first,
        // the sample error would be 450 in the place of 500.
        NetworkCoordinates net = Nets.two(30, 40, 10, 20, 160);
        net.measure(0, 1);
        Nets.nodeDue(checks, net, 0, 33, 45, 13, 937);
        // The step is -700 and d 1500. A height that came down first would leave more for x and y.
        net = withGains(Nets.two(300, 400, 500, 500, 100), 1000, 1000);
        net.measure(0, 1);
        Nets.nodeDue(checks, net, 0, 160, 214, 34, 1000);
    }

    @Sentence(in = "UPDATE", words = "The weight is w = 1000 * ea / (ea + eb)")
    static void weight(Checks checks) {
        // Equal error estimates, great or small: 500.
        checks.due("equal, 1000", 600, xAfter(withGains(Nets.apart(100, 1100), 1, 1000)));
        NetworkCoordinates net = Nets.sure();
        net.setRtt(0, 1, 1100);
        net.setGains(1, 1000);
        checks.due("equal, 1", 600, xAfter(net));
        // 1 beside 1000: 0, so that nothing changes.
        net = Nets.sure();
        net.place(1, 0, 0, 0);
        net.setRtt(0, 1, 1100);
        net.measure(0, 1);
        Nets.nodeDue(checks, net, 0, 100, 0, 0, 1);
        // 1000 beside 1: 999, and the step is 999 too; the sample error is 909.
        net.measure(1, 0);
        Nets.nodeDue(checks, net, 1, -999, 0, 0, 909);
    }

    @Sentence(in = "UPDATE",
            words = "The sample error is es = 1000 * |d - s| / s, but at most 1000")
    static void sampleErrorIsAtMost1000(Checks checks) {
        // With the error gain 1000 the new error estimate is es / 2 + 500.
        checks.due("0", 500, errorAfter(withGains(Nets.apart(100, 100), 1000, 1)));
        checks.due("10, too near", 505, errorAfter(withGains(Nets.apart(99, 100), 1000, 1)));
        checks.due("10, too far", 505, errorAfter(withGains(Nets.apart(101, 100), 1000, 1)));
        checks.due("990", 995, errorAfter(withGains(Nets.apart(199, 100), 1000, 1)));
        checks.due("1000", 1000, errorAfter(withGains(Nets.apart(200, 100), 1000, 1)));
        checks.due("1010", 1000, errorAfter(withGains(Nets.apart(201, 100), 1000, 1)));
        checks.due("at one place", 1000, errorAfter(withGains(Nets.apart(0, 100), 1000, 1)));
        // ea is 500 and eb 1000: ve is 333, and 2000 would make 999 of 666.
        NetworkCoordinates net = withGains(Nets.apart(300, 300), 1000, 1);
        checks.due("0 at first", 500, errorAfter(net));
        net.setRtt(0, 1, 100);
        checks.due("2000", 666, errorAfter(net));
        net = withGains(Nets.apart(300, 300), 1000, 1);
        net.measure(0, 1);
        net.setRtt(0, 1, 1);
        checks.due("299000", 666, errorAfter(net));
        // ea is 500 and eb 334: ve is 599, the new error estimate 799.5, and 1001 would make 800.
        net = withGains(Nets.apart(300, 300), 1000, 1);
        net.measure(0, 1);
        net.measure(1, 0);
        net.setRtt(0, 1, 100);
        checks.due("2000, not even 1001", 799, errorAfter(net));
    }

    @Sentence(in = "UPDATE",
            words = "With the error gain ge (1 to 1000, initially 250), let ve = ge * w / 1000")
    static void errorGain(Checks checks) {
        // The sample error is 0 and the new error estimate 1000 - ve.
        checks.due("initially 250", 875, errorAfter(Nets.apart(100, 100)));
        checks.due("1", 1000, errorAfter(withGains(Nets.apart(100, 100), 1, 1000)));
        checks.due("2", 999, errorAfter(withGains(Nets.apart(100, 100), 2, 1000)));
        checks.due("3", 999, errorAfter(withGains(Nets.apart(100, 100), 3, 1000)));
        checks.due("999", 501, errorAfter(withGains(Nets.apart(100, 100), 999, 1)));
        checks.due("1000", 500, errorAfter(withGains(Nets.apart(100, 100), 1000, 1)));
        checks.due("0", Due.OUT_OF_RANGE, Nets.of(2).setGains(0, 1));
        checks.due("1001", Due.OUT_OF_RANGE, Nets.of(2).setGains(1001, 1));
    }

    @Sentence(in = "UPDATE", words = "The new error estimate is (es * ve + ea * (1000 - ve)) / "
            + "1000, but at least 1")
    static void errorEstimateIsAtLeast1(Checks checks) {
        // es 500, ve 125, ea 1000; then es 440, ve 120, ea 937, which makes 52.8 and 824.56.
        NetworkCoordinates net = Nets.apart(50, 100);
        checks.due("between both", 937, errorAfter(net));
        checks.due("between both, once more", 877, errorAfter(net));
        // Two nodes that know it all come down to 1 and stay there.
        net = Nets.sure();
        checks.due("error(0)", 1, net.error(0));
        checks.due("error(1)", 1, net.error(1));
        checks.due("error(0), measured once more", 1, errorAfter(net));
        net.run(100);
        checks.due("error(0), measured often", 1, net.error(0));
        // es 1000, ve 500, ea 1.
        net.setRtt(0, 1, 1);
        checks.due("up again", 500, errorAfter(net));
    }

    @Sentence(in = "UPDATE",
            words = "With the move gain gm (1 to 1000, initially 250), let vm = gm * w / 1000")
    static void moveGain(Checks checks) {
        // s is 1000 and d 0: x is the step, and that is vm.
        checks.due("initially 250", 125, xAfter(Nets.apart(0, 1000)));
        checks.due("1", 0, xAfter(withGains(Nets.apart(0, 1000), 1000, 1)));
        checks.due("2", 1, xAfter(withGains(Nets.apart(0, 1000), 1000, 2)));
        checks.due("3", 1, xAfter(withGains(Nets.apart(0, 1000), 1000, 3)));
        checks.due("999", 499, xAfter(withGains(Nets.apart(0, 1000), 1, 999)));
        checks.due("1000", 500, xAfter(withGains(Nets.apart(0, 1000), 1, 1000)));
        checks.due("0", Due.OUT_OF_RANGE, Nets.of(2).setGains(1, 0));
        checks.due("1001", Due.OUT_OF_RANGE, Nets.of(2).setGains(1, 1001));
    }

    @Sentence(in = "UPDATE", words = "The step is (s - d) * vm / 1000")
    static void step(Checks checks) {
        checks.due("as predicted", 500, xAfter(Nets.apart(500, 500)));
        checks.due("7 too near, too little for a step", 493, xAfter(Nets.apart(493, 500)));
        checks.due("8 too near", 493, xAfter(Nets.apart(492, 500)));
        checks.due("7 too far, too little for a step", 507, xAfter(Nets.apart(507, 500)));
        checks.due("8 too far", 507, xAfter(Nets.apart(508, 500)));
        checks.due("400 too near", 150, xAfter(Nets.apart(100, 500)));
        checks.due("400 too far", 850, xAfter(Nets.apart(900, 500)));
    }

    @Sentence(in = "UPDATE", words = "It is then limited to the range -m to m, where m is the "
            + "maximum step (1 to 20000, initially 2000)")
    static void stepIsLimited(Checks checks) {
        limited(checks, 49, 49);
        limited(checks, 50, 50);
        limited(checks, 51, 50);
        limited(checks, 1, 1);
        // The steps are 2000 and 2001, -2000 and -2001.
        checks.due("2000", 2000, xAfter(withGains(Nets.apart(0, 4000), 1, 1000)));
        checks.due("2001", 2000, xAfter(withGains(Nets.apart(0, 4002), 1, 1000)));
        checks.due("-2000", 2001, xAfter(withGains(Nets.apart(4001, 1), 1, 1000)));
        checks.due("-2001", 2003, xAfter(withGains(Nets.apart(4003, 1), 1, 1000)));
        NetworkCoordinates net = withMaxStep(Nets.apart(0, 20000), 20000);
        net.setGains(1, 1000);
        net.setLie(1, 20000);
        checks.due("20000, the longest away", 20000, xAfter(net));
        net = withMaxStep(Nets.apart(100000, 1), 20000);
        net.setGains(1, 1000);
        checks.due("-20000, the longest nearer", 80000, xAfter(net));
    }

    /** The steps are 50 and -50. */
    private static void limited(Checks checks, int maxStep, int due) {
        NetworkCoordinates net = withMaxStep(Nets.apart(0, 100), maxStep);
        net.setGains(1, 1000);
        checks.due("50, limited to " + maxStep, due, xAfter(net));
        net = withMaxStep(Nets.apart(200, 100), maxStep);
        net.setGains(1, 1000);
        checks.due("-50, limited to " + maxStep, 200 - due, xAfter(net));
    }

    @Sentence(in = "UPDATE", words = "If d is 0, the new x is x plus the step, and y and the "
            + "height do not change")
    static void atOnePlaceOnlyXChanges(Checks checks) {
        NetworkCoordinates net = Nets.of(3);
        for (int node = 0; node < 3; node++) {
            net.place(node, -70, 80, 0);
        }
        net.setRtt(1, 2, 300);
        net.setRtt(0, 1, 300);
        net.measure(1, 2);
        Nets.nodeDue(checks, net, 1, -33, 80, 0, 1000);
        net.place(1, -70, 80, 0);
        net.measure(1, 0);
        Nets.nodeDue(checks, net, 1, -33, 80, 0, 1000);
        net.place(1, -70, 80, 0);
        net.setMaxStep(1);
        net.measure(1, 0);
        Nets.nodeDue(checks, net, 1, -69, 80, 0, 1000);
        net.place(1, -70, 80, 0);
        net.setRtt(1, 2, 7);
        net.measure(1, 2);
        Nets.nodeDue(checks, net, 1, -70, 80, 0, 1000);
    }

    @Sentence(in = "UPDATE", words = "If d is greater than 0, the new x is x + step * dx / d, the "
            + "new y is y + step * dy / d, and the new height is height + step * (height of a + "
            + "height of b) / d")
    static void apartAllChange(Checks checks) {
        // d is 1, and the step 999 * 125 / 1000 = 124: all of it goes along the one difference.
        pushed(checks, Nets.two(1, 0, 0, 0, 1000), 125, 0, 0);
        pushed(checks, Nets.two(-1, 0, 0, 0, 1000), -125, 0, 0);
        pushed(checks, Nets.two(0, 1, 0, 0, 1000), 0, 125, 0);
        pushed(checks, Nets.two(0, -1, 0, 0, 1000), 0, -125, 0);
        pushed(checks, Nets.two(0, 0, 1, 0, 1000), 0, 0, 125);
        pushed(checks, Nets.two(0, 0, 0, 1, 1000), 0, 0, 124);
        // d is 530, and the step 58.
        pushed(checks, Nets.two(300, 400, 10, 20, 1000), 332, 443, 13);
        // d is 530, and the step -53.
        pushed(checks, Nets.two(300, -400, 20, 10, 100), 270, -360, 17);
    }

    private static void pushed(Checks checks, NetworkCoordinates net, int x, int y, int height) {
        net.measure(0, 1);
        checks.due("x(0)", x, net.x(0));
        checks.due("y(0)", y, net.y(0));
        checks.due("height(0)", height, net.height(0));
    }

    @Sentence(in = "UPDATE", words = "Finally x and y are limited to -100000 to 100000 and the "
            + "height is limited to 0 to 100000")
    static void positionsAreLimited(Checks checks) {
        edge(checks, 1, 0);
        edge(checks, -1, 0);
        edge(checks, 0, 1);
        edge(checks, 0, -1);
        NetworkCoordinates net = withMaxStep(Nets.apart(0, 20000), 2);
        net.place(0, 99999, 5, 0);
        net.place(1, 99999, 5, 0);
        checks.due("x(0), 2 more than 99999 from one place", 100000, xAfter(net));
        // d is 10001 and the step -5000; 5000 * 10001 / 10001 is more than the height has.
        net = withGains(Nets.two(0, 0, 1, 10000, 1), 1, 1000);
        net.setMaxStep(20000);
        net.measure(0, 1);
        checks.due("height(0), 5000 less than 1", 0, net.height(0));
        net = withGains(Nets.two(0, 0, 5000, 5001, 1), 1, 1000);
        net.setMaxStep(20000);
        net.measure(0, 1);
        checks.due("height(0), 5000 less than 5000", 0, net.height(0));
        net = withGains(Nets.two(0, 0, 5001, 5000, 1), 1, 1000);
        net.setMaxStep(20000);
        net.measure(0, 1);
        checks.due("height(0), 5000 less than 5001", 1, net.height(0));
        // No height can rise above its limit: a sample is 40000 at most, and a prediction that is
        // greater pushes down. The step is 19950 here.
        net = withGains(Nets.two(0, 0, 100, 0, 20000), 1, 1000);
        net.setLie(1, 20000);
        net.setMaxStep(20000);
        net.measure(0, 1);
        checks.due("height(0), pushed up", 20050, net.height(0));
        checks.due("height(0) at the limit", 99980, heightAtTheLimit());
    }

    /** The step is -20 after the maximum step. */
    private static int heightAtTheLimit() {
        NetworkCoordinates net = withMaxStep(Nets.two(0, 0, 100000, 0, 1), 20);
        net.measure(0, 1);
        return net.height(0);
    }

    /** Two from the limit, one from it and at it, each time pushed by 2. */
    private static void edge(Checks checks, int x, int y) {
        for (int from = 99998; from <= 100000; from++) {
            NetworkCoordinates net = withMaxStep(Nets.apart(0, 20000), 2);
            net.place(0, from * x, from * y, 0);
            net.place(1, 99990 * x, 99990 * y, 0);
            net.measure(0, 1);
            checks.due("x(0) from " + from * x, 100000 * x, net.x(0));
            checks.due("y(0) from " + from * y, 100000 * y, net.y(0));
        }
        NetworkCoordinates net = withMaxStep(Nets.apart(0, 20000), 2);
        net.place(0, 99997 * x, 99997 * y, 0);
        net.place(1, 99990 * x, 99990 * y, 0);
        net.measure(0, 1);
        checks.due("x(0) from " + 99997 * x, 99999 * x, net.x(0));
        checks.due("y(0) from " + 99997 * y, 99999 * y, net.y(0));
    }
}
