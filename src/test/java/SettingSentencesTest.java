/** Promises 1 to 8: the constructor, reset, and what a caller sets. */
public final class SettingSentencesTest {
    public static void main(String[] args) {
        Sentences.run(SettingSentencesTest.class);
    }

    @Sentence(in = "Promise 1", words = "Five nodes")
    static void p1FiveNodes(Checks checks) {
        NetworkCoordinates net = new NetworkCoordinates();
        checks.due("x(4)", 0, net.x(4));
        checks.due("x(5)", Due.NO_SUCH_NODE, net.x(5));
        checks.due("reset(5)", 5, net.reset(5));
    }

    @Sentence(in = "Promise 1", words = "everything initial")
    static void p1EverythingInitial(Checks checks) {
        Nets.changedEverywhere();
        NetworkCoordinates net = new NetworkCoordinates();
        Nets.initialDue(checks, net, 5);
        checks.due("setGains(1, 1)", 2500250, net.setGains(1, 1));
        checks.due("setMaxStep(1)", 2000, net.setMaxStep(1));
    }

    @Sentence(in = "Promise 1", words = "round counter 0")
    static void p1RoundCounter0(Checks checks) {
        NetworkCoordinates net = new NetworkCoordinates();
        checks.due("roundCounter()", 0, net.roundCounter());
        net.run(3);
        checks.due("roundCounter() of another", 0, new NetworkCoordinates().roundCounter());
    }

    @Sentence(in = "Promise 1", words = "nothing saved")
    static void p1NothingSaved(Checks checks) {
        NetworkCoordinates other = new NetworkCoordinates();
        other.save(0);
        other.save(1);
        NetworkCoordinates net = new NetworkCoordinates();
        checks.due("restore(0)", Due.NOT_SAVED, net.restore(0));
        checks.due("restore(1)", Due.NOT_SAVED, net.restore(1));
    }

    @Sentence(in = "Promise 2", words = "Resets the system to n nodes: positions, heights, error "
            + "estimates, rtts, lies and the round counter become initial")
    static void p2MakesAllInitial(Checks checks) {
        for (int n = 2; n <= 10; n++) {
            NetworkCoordinates net = Nets.changedEverywhere();
            net.reset(n);
            Nets.initialDue(checks, net, n);
            checks.due("x(" + n + ")", Due.NO_SUCH_NODE, net.x(n));
            net.reset(10);
            Nets.initialDue(checks, net, 10);
        }
    }

    @Sentence(in = "Promise 2",
            words = "The gains, the maximum step and the save slots do not change")
    static void p2KeepsGainsStepAndSlots(Checks checks) {
        NetworkCoordinates net = Nets.changedEverywhere();
        Picture saved = new Picture(net, 10);
        net.save(0);
        net.reset(3);
        checks.due("the gains", 3000400, net.setGains(11, 12));
        checks.due("the maximum step", 70, net.setMaxStep(13));
        net.reset(4);
        checks.due("the gains that were set last", 110012, net.setGains(11, 12));
        checks.due("the maximum step that was set last", 13, net.setMaxStep(13));
        checks.due("the slot without anything", Due.NOT_SAVED, net.restore(1));
        checks.due("restore(0)", 1, net.restore(0));
        String difference = saved.difference(net);
        checks.due("the slot's state " + difference, 0, difference.length());
    }

    @Sentence(in = "Promise 2", words = "`n`: number of nodes, 2 to 10")
    static void p2From2To10(Checks checks) {
        for (int n = 2; n <= 10; n++) {
            NetworkCoordinates net = new NetworkCoordinates();
            checks.due("reset(" + n + ")", 5, net.reset(n));
            checks.due("x(" + (n - 1) + ") of " + n, 0, net.x(n - 1));
            checks.due("x(" + n + ") of " + n, Due.NO_SUCH_NODE, net.x(n));
        }
    }

    @Sentence(in = "Promise 2", words = "Returns the previous number of nodes")
    static void p2ReturnsThePreviousNumber(Checks checks) {
        NetworkCoordinates net = new NetworkCoordinates();
        checks.due("reset(10) at first", 5, net.reset(10));
        checks.due("reset(10) again", 10, net.reset(10));
        checks.due("reset(2)", 10, net.reset(2));
        net.reset(11);
        checks.due("reset(7) after a refused one", 2, net.reset(7));
        net.save(0);
        net.reset(3);
        net.restore(0);
        checks.due("reset(5) of the restored", 7, net.reset(5));
    }

    @Sentence(in = "Promise 2", words = "OUT_OF_RANGE if n is out of range")
    static void p2OutOfRange(Checks checks) {
        NetworkCoordinates net = new NetworkCoordinates();
        net.place(4, 7, 0, 0);
        for (int n : new int[] {1, 0, -1, 11, 12, Integer.MIN_VALUE, Integer.MAX_VALUE}) {
            checks.due("reset(" + n + ")", Due.OUT_OF_RANGE, net.reset(n));
            checks.due("x(4)", 7, net.x(4));
        }
    }

    @Sentence(in = "Promise 3", words = "Sets the rtt of a pair")
    static void p3SetsTheRtt(Checks checks) {
        NetworkCoordinates net = Nets.of(10);
        for (int a = 0; a < 10; a++) {
            for (int b = a + 1; b < 10; b++) {
                net.setRtt(a, b, 100 * a + b);
            }
        }
        net.setRtt(9, 4, 20000);
        for (int a = 0; a < 10; a++) {
            for (int b = a + 1; b < 10; b++) {
                int due = a == 4 && b == 9 ? 20000 : 100 * a + b;
                checks.due("rtt(" + a + ", " + b + ")", due, net.rtt(a, b));
            }
        }
    }

    @Sentence(in = "Promise 3", words = "`rtt`: 1 to 20000, or 0 to make it unknown")
    static void p3From0To20000(Checks checks) {
        NetworkCoordinates net = Nets.of(3);
        net.setRtt(0, 1, 1);
        checks.due("rtt(0, 1) of 1", 1, net.rtt(0, 1));
        net.setRtt(0, 1, 20000);
        checks.due("rtt(0, 1) of 20000", 20000, net.rtt(0, 1));
        net.setRtt(0, 1, 0);
        checks.due("rtt(0, 1) of 0", Due.UNKNOWN_RTT, net.rtt(0, 1));
        checks.due("measure(0, 1) of 0", Due.UNKNOWN_RTT, net.measure(0, 1));
        checks.due("meanError() of 0", Due.NONE, net.meanError());
    }

    @Sentence(in = "Promise 3", words = "Returns the previous rtt, 0 if it was unknown")
    static void p3ReturnsThePreviousRtt(Checks checks) {
        NetworkCoordinates net = Nets.of(3);
        checks.due("setRtt(0, 2, 20000) at first", 0, net.setRtt(0, 2, 20000));
        checks.due("setRtt(2, 0, 7)", 20000, net.setRtt(2, 0, 7));
        net.setRtt(0, 2, -1);
        checks.due("setRtt(0, 2, 0) after a refused one", 7, net.setRtt(0, 2, 0));
        checks.due("setRtt(0, 2, 0) again", 0, net.setRtt(0, 2, 0));
        checks.due("setRtt(0, 2, 1) of the unknown", 0, net.setRtt(0, 2, 1));
        checks.due("setRtt(0, 1, 1) of another pair", 0, net.setRtt(0, 1, 1));
    }

    @Sentence(in = "Promise 3", words = "NO_SUCH_NODE if a or b is not a node (checked first)")
    static void p3NoSuchNode(Checks checks) {
        Refusals.noSuchNodes(checks, (net, a, b) -> net.setRtt(a, b, 5));
        NetworkCoordinates net = Nets.of(3);
        for (int rtt : Edges.beyond(0, 20000)) {
            checks.due("setRtt(3, 0, " + rtt + ")", Due.NO_SUCH_NODE, net.setRtt(3, 0, rtt));
            checks.due("setRtt(0, -1, " + rtt + ")", Due.NO_SUCH_NODE, net.setRtt(0, -1, rtt));
            checks.due("setRtt(3, 3, " + rtt + ")", Due.NO_SUCH_NODE, net.setRtt(3, 3, rtt));
        }
    }

    @Sentence(in = "Promise 3", words = "SAME_NODE if a equals b (checked second)")
    static void p3SameNode(Checks checks) {
        Refusals.sameNode(checks, (net, a, b) -> net.setRtt(a, b, 5));
        Refusals.sameNode(checks, (net, a, b) -> net.setRtt(a, b, 0));
        Refusals.sameNode(checks, (net, a, b) -> net.setRtt(a, b, 20001));
        Refusals.sameNode(checks, (net, a, b) -> net.setRtt(a, b, -1));
    }

    @Sentence(in = "Promise 3", words = "OUT_OF_RANGE if rtt is out of range")
    static void p3OutOfRange(Checks checks) {
        NetworkCoordinates net = Nets.apart(0, 55);
        for (int rtt : Edges.beyond(0, 20000)) {
            checks.due("setRtt(0, 1, " + rtt + ")", Due.OUT_OF_RANGE, net.setRtt(0, 1, rtt));
            checks.due("setRtt(1, 0, " + rtt + ")", Due.OUT_OF_RANGE, net.setRtt(1, 0, rtt));
            checks.due("rtt(0, 1)", 55, net.rtt(0, 1));
        }
    }

    @Sentence(in = "Promise 4", words = "Returns the rtt of a pair")
    static void p4ReturnsTheRttOfThePair(Checks checks) {
        NetworkCoordinates net = Nets.of(4);
        for (int a = 0; a < 4; a++) {
            for (int b = a + 1; b < 4; b++) {
                net.setRtt(b, a, 10 * a + b);
            }
        }
        for (int a = 0; a < 4; a++) {
            for (int b = a + 1; b < 4; b++) {
                checks.due("rtt(" + a + ", " + b + ")", 10 * a + b, net.rtt(a, b));
                checks.due("rtt(" + b + ", " + a + ")", 10 * a + b, net.rtt(b, a));
            }
        }
    }

    @Sentence(in = "Promise 4", words = "Returns the rtt")
    static void p4ReturnsTheRttAlone(Checks checks) {
        NetworkCoordinates net = Nets.apart(300, 1);
        net.setLie(0, 20);
        net.setLie(1, 30);
        checks.due("rtt(0, 1), the smallest, without any lie", 1, net.rtt(0, 1));
        net.setRtt(0, 1, 20000);
        net.run(5);
        checks.due("rtt(0, 1), the greatest, after measurements", 20000, net.rtt(0, 1));
    }

    @Sentence(in = "Promise 4", words = "NO_SUCH_NODE if a or b is not a node (checked first)")
    static void p4NoSuchNode(Checks checks) {
        Refusals.noSuchNodes(checks, NetworkCoordinates::rtt);
    }

    @Sentence(in = "Promise 4", words = "SAME_NODE if a equals b (checked second)")
    static void p4SameNode(Checks checks) {
        Refusals.sameNode(checks, NetworkCoordinates::rtt);
    }

    @Sentence(in = "Promise 4", words = "UNKNOWN_RTT if it is unknown")
    static void p4UnknownRtt(Checks checks) {
        Refusals.unknownRtt(checks, NetworkCoordinates::rtt);
    }

    @Sentence(in = "Promise 5", words = "Sets the lie of a node")
    static void p5SetsTheLie(Checks checks) {
        NetworkCoordinates net = Nets.allKnown(3, 100);
        net.setLie(1, 7);
        checks.due("measure(0, 1)", 107, net.measure(0, 1));
        checks.due("measure(2, 1)", 107, net.measure(2, 1));
        checks.due("measure(1, 0)", 100, net.measure(1, 0));
        checks.due("measure(0, 2)", 100, net.measure(0, 2));
        checks.due("rtt(0, 1)", 100, net.rtt(0, 1));
    }

    @Sentence(in = "Promise 5", words = "`lie`: 0 to 20000")
    static void p5From0To20000(Checks checks) {
        NetworkCoordinates net = Nets.apart(0, 1);
        net.setLie(1, 20000);
        checks.due("measure(0, 1) with the greatest lie", 20001, net.measure(0, 1));
        net.setLie(1, 1);
        checks.due("measure(0, 1) with the smallest lie", 2, net.measure(0, 1));
        net.setLie(1, 0);
        checks.due("measure(0, 1) without a lie", 1, net.measure(0, 1));
    }

    @Sentence(in = "Promise 5", words = "Returns the previous lie")
    static void p5ReturnsThePreviousLie(Checks checks) {
        NetworkCoordinates net = Nets.of(10);
        checks.due("setLie(9, 20000) at first", 0, net.setLie(9, 20000));
        checks.due("setLie(9, 3)", 20000, net.setLie(9, 3));
        net.setLie(9, 20001);
        checks.due("setLie(9, 0) after a refused one", 3, net.setLie(9, 0));
        checks.due("setLie(9, 0)", 0, net.setLie(9, 0));
        checks.due("setLie(0, 1) of another", 0, net.setLie(0, 1));
    }

    @Sentence(in = "Promise 5", words = "NO_SUCH_NODE if node is not a node (checked first)")
    static void p5NoSuchNode(Checks checks) {
        Refusals.noSuchNode(checks, (net, node) -> net.setLie(node, 5));
        for (int lie : Edges.beyond(0, 20000)) {
            checks.due("setLie(5, " + lie + ")", Due.NO_SUCH_NODE, Nets.of(5).setLie(5, lie));
            checks.due("setLie(-1, " + lie + ")", Due.NO_SUCH_NODE, Nets.of(5).setLie(-1, lie));
        }
    }

    @Sentence(in = "Promise 5", words = "OUT_OF_RANGE if lie is out of range")
    static void p5OutOfRange(Checks checks) {
        NetworkCoordinates net = Nets.of(5);
        net.setLie(4, 8);
        for (int lie : Edges.beyond(0, 20000)) {
            checks.due("setLie(4, " + lie + ")", Due.OUT_OF_RANGE, net.setLie(4, lie));
        }
        checks.due("setLie(4, 0)", 8, net.setLie(4, 0));
    }

    @Sentence(in = "Promise 6", words = "Sets both gains")
    static void p6SetsBothGains(Checks checks) {
        // The weight is 500: ve is 200 and vm is 50; es is 500 and s - d is 500.
        NetworkCoordinates net = Nets.apart(500, 1000);
        net.setGains(400, 100);
        net.measure(0, 1);
        Nets.nodeDue(checks, net, 0, 525, 0, 0, 900);
    }

    @Sentence(in = "Promise 6", words = "`errorGain`: 1 to 1000")
    static void p6ErrorGainFrom1To1000(Checks checks) {
        NetworkCoordinates net = Nets.of(2);
        checks.due("setGains(1, 2)", 2500250, net.setGains(1, 2));
        checks.due("setGains(1000, 2)", 10002, net.setGains(1000, 2));
        checks.due("setGains(5, 2)", 10000002, net.setGains(5, 2));
        checks.due("setGains(0, 2)", Due.OUT_OF_RANGE, net.setGains(0, 2));
        checks.due("setGains(1001, 2)", Due.OUT_OF_RANGE, net.setGains(1001, 2));
    }

    @Sentence(in = "Promise 6", words = "`moveGain`: 1 to 1000")
    static void p6MoveGainFrom1To1000(Checks checks) {
        NetworkCoordinates net = Nets.of(2);
        checks.due("setGains(2, 1)", 2500250, net.setGains(2, 1));
        checks.due("setGains(2, 1000)", 20001, net.setGains(2, 1000));
        checks.due("setGains(2, 5)", 21000, net.setGains(2, 5));
        checks.due("setGains(2, 0)", Due.OUT_OF_RANGE, net.setGains(2, 0));
        checks.due("setGains(2, 1001)", Due.OUT_OF_RANGE, net.setGains(2, 1001));
    }

    @Sentence(in = "Promise 6",
            words = "Returns 10000 times the previous error gain plus the previous move gain")
    static void p6ReturnsThePreviousGains(Checks checks) {
        NetworkCoordinates net = new NetworkCoordinates();
        checks.due("setGains(1, 1) at first", 2500250, net.setGains(1, 1));
        checks.due("setGains(1000, 1000)", 10001, net.setGains(1000, 1000));
        checks.due("setGains(3, 4)", 10001000, net.setGains(3, 4));
        net.setGains(0, 9);
        net.setGains(9, 0);
        checks.due("setGains(9, 9) after refused ones", 30004, net.setGains(9, 9));
    }

    @Sentence(in = "Promise 6", words = "OUT_OF_RANGE if either argument is out of range")
    static void p6OutOfRange(Checks checks) {
        NetworkCoordinates net = new NetworkCoordinates();
        for (int gain : Edges.beyond(1, 1000)) {
            checks.due("setGains(" + gain + ", 5)", Due.OUT_OF_RANGE, net.setGains(gain, 5));
            checks.due("setGains(5, " + gain + ")", Due.OUT_OF_RANGE, net.setGains(5, gain));
            checks.due("setGains(both " + gain + ")", Due.OUT_OF_RANGE, net.setGains(gain, gain));
        }
        checks.due("neither gain is set", 2500250, net.setGains(1, 1));
    }

    @Sentence(in = "Promise 7", words = "Sets the maximum step")
    static void p7SetsTheMaximumStep(Checks checks) {
        NetworkCoordinates net = Nets.apart(0, 800);
        net.setMaxStep(99);
        net.measure(0, 1);
        checks.due("x(0), 99 of 100", 99, net.x(0));
        net.place(0, 0, 0, 0);
        net.setMaxStep(101);
        net.measure(0, 1);
        checks.due("x(0), all of 100", 100, net.x(0));
    }

    @Sentence(in = "Promise 7", words = "`step`: 1 to 20000")
    static void p7From1To20000(Checks checks) {
        NetworkCoordinates net = Nets.of(2);
        checks.due("setMaxStep(1)", 2000, net.setMaxStep(1));
        checks.due("setMaxStep(20000)", 1, net.setMaxStep(20000));
        checks.due("setMaxStep(5)", 20000, net.setMaxStep(5));
    }

    @Sentence(in = "Promise 7", words = "Returns the previous maximum step")
    static void p7ReturnsThePreviousStep(Checks checks) {
        NetworkCoordinates net = new NetworkCoordinates();
        checks.due("setMaxStep(77) at first", 2000, net.setMaxStep(77));
        net.setMaxStep(0);
        checks.due("setMaxStep(78) after a refused one", 77, net.setMaxStep(78));
        checks.due("setMaxStep(78)", 78, net.setMaxStep(78));
    }

    @Sentence(in = "Promise 7", words = "OUT_OF_RANGE if step is out of range")
    static void p7OutOfRange(Checks checks) {
        NetworkCoordinates net = new NetworkCoordinates();
        for (int step : Edges.beyond(1, 20000)) {
            checks.due("setMaxStep(" + step + ")", Due.OUT_OF_RANGE, net.setMaxStep(step));
        }
        checks.due("setMaxStep(1)", 2000, net.setMaxStep(1));
    }

    @Sentence(in = "Promise 8", words = "Places a node; its error estimate becomes 1000")
    static void p8PlacesANode(Checks checks) {
        NetworkCoordinates net = Nets.apart(100, 100);
        net.setLie(0, 9);
        net.run(3);
        int xOfTheOther = net.x(1);
        int errorOfTheOther = net.error(1);
        checks.holds("error(0) is below 1000", net.error(0) < 1000);
        net.place(0, 11, -12, 13);
        Nets.nodeDue(checks, net, 0, 11, -12, 13, 1000);
        Nets.nodeDue(checks, net, 1, xOfTheOther, 0, 0, errorOfTheOther);
        checks.due("rtt(0, 1)", 100, net.rtt(0, 1));
        checks.due("the lie of 0", 9, net.setLie(0, 9));
        checks.due("roundCounter()", 3, net.roundCounter());
    }

    @Sentence(in = "Promise 8", words = "`x`: -100000 to 100000")
    static void p8XFromEndToEnd(Checks checks) {
        NetworkCoordinates net = Nets.of(2);
        checks.due("place(1, -100000, 1, 2)", 1000, net.place(1, -100000, 1, 2));
        Nets.nodeDue(checks, net, 1, -100000, 1, 2, 1000);
        checks.due("place(1, 100000, 1, 2)", 1000, net.place(1, 100000, 1, 2));
        Nets.nodeDue(checks, net, 1, 100000, 1, 2, 1000);
        checks.due("place(1, -100001, 1, 2)", Due.OUT_OF_RANGE, net.place(1, -100001, 1, 2));
        checks.due("place(1, 100001, 1, 2)", Due.OUT_OF_RANGE, net.place(1, 100001, 1, 2));
    }

    @Sentence(in = "Promise 8", words = "`y`: -100000 to 100000")
    static void p8YFromEndToEnd(Checks checks) {
        NetworkCoordinates net = Nets.of(2);
        checks.due("place(1, 1, -100000, 2)", 1000, net.place(1, 1, -100000, 2));
        Nets.nodeDue(checks, net, 1, 1, -100000, 2, 1000);
        checks.due("place(1, 1, 100000, 2)", 1000, net.place(1, 1, 100000, 2));
        Nets.nodeDue(checks, net, 1, 1, 100000, 2, 1000);
        checks.due("place(1, 1, -100001, 2)", Due.OUT_OF_RANGE, net.place(1, 1, -100001, 2));
        checks.due("place(1, 1, 100001, 2)", Due.OUT_OF_RANGE, net.place(1, 1, 100001, 2));
    }

    @Sentence(in = "Promise 8", words = "`height`: 0 to 100000")
    static void p8HeightFromEndToEnd(Checks checks) {
        NetworkCoordinates net = Nets.of(2);
        checks.due("place(1, 1, 2, 100000)", 1000, net.place(1, 1, 2, 100000));
        Nets.nodeDue(checks, net, 1, 1, 2, 100000, 1000);
        checks.due("place(1, 1, 2, 0)", 1000, net.place(1, 1, 2, 0));
        Nets.nodeDue(checks, net, 1, 1, 2, 0, 1000);
        checks.due("place(1, 1, 2, -1)", Due.OUT_OF_RANGE, net.place(1, 1, 2, -1));
        checks.due("place(1, 1, 2, 100001)", Due.OUT_OF_RANGE, net.place(1, 1, 2, 100001));
    }

    @Sentence(in = "Promise 8", words = "Returns the previous error estimate")
    static void p8ReturnsThePreviousErrorEstimate(Checks checks) {
        NetworkCoordinates net = Nets.apart(100, 100);
        net.measure(0, 1);
        checks.due("place(0, 1, 1, 1) after a measurement", 875, net.place(0, 1, 1, 1));
        checks.due("place(0, 2, 2, 2) again", 1000, net.place(0, 2, 2, 2));
        net = Nets.sure();
        checks.due("place(1, 1, 1, 1), the smallest", 1, net.place(1, 1, 1, 1));
    }

    @Sentence(in = "Promise 8", words = "NO_SUCH_NODE if node is not a node (checked first)")
    static void p8NoSuchNode(Checks checks) {
        Refusals.noSuchNode(checks, (net, node) -> net.place(node, 1, 2, 3));
        NetworkCoordinates net = Nets.of(4);
        for (int far : Edges.beyond(-100000, 100000)) {
            checks.due("place(4, " + far + ", ..)", Due.NO_SUCH_NODE, net.place(4, far, 0, 0));
            checks.due("place(-1, 0, " + far + ", 0)", Due.NO_SUCH_NODE, net.place(-1, 0, far, 0));
        }
        for (int high : Edges.beyond(0, 100000)) {
            checks.due("place(4, .., " + high + ")", Due.NO_SUCH_NODE, net.place(4, 0, 0, high));
        }
    }

    @Sentence(in = "Promise 8", words = "OUT_OF_RANGE if any other argument is out of range")
    static void p8OutOfRange(Checks checks) {
        NetworkCoordinates net = Nets.apart(100, 100);
        net.measure(0, 1);
        for (int far : Edges.beyond(-100000, 100000)) {
            checks.due("place(0, " + far + ", 5, 5)", Due.OUT_OF_RANGE, net.place(0, far, 5, 5));
            checks.due("place(0, 5, " + far + ", 5)", Due.OUT_OF_RANGE, net.place(0, 5, far, 5));
        }
        for (int high : Edges.beyond(0, 100000)) {
            checks.due("place(0, 5, 5, " + high + ")", Due.OUT_OF_RANGE, net.place(0, 5, 5, high));
        }
        Nets.nodeDue(checks, net, 0, 100, 0, 0, 875);
    }
}
