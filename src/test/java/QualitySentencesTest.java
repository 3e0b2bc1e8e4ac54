/** Promises 17 to 21: relative errors, the nearest nodes and relays. */
public final class QualitySentencesTest {
    public static void main(String[] args) {
        Sentences.run(QualitySentencesTest.class);
    }

    @Sentence(in = "Promise 17", words = "Returns the mean of the relative errors of all pairs "
            + "with known rtt (their sum divided by their number)")
    static void p17ReturnsTheMean(Checks checks) {
        NetworkCoordinates net = Nets.of(10);
        net.place(8, 40, 0, 0);
        net.setRtt(8, 9, 40);
        checks.due("meanError() of 0", 0, net.meanError());
        net.setRtt(0, 1, 7);
        checks.due("meanError() of 0 and 1000", 500, net.meanError());
        net.setRtt(8, 0, 30);
        checks.due("meanError() of 0, 333 and 1000", 444, net.meanError());
        net.setRtt(8, 0, 10);
        checks.due("meanError() of 0, 3000 and 1000", 1333, net.meanError());
        net.setLie(8, 100);
        net.setLie(0, 100);
        checks.due("meanError() without any lie", 1333, net.meanError());
        net.setRtt(0, 1, 0);
        checks.due("meanError() of 0 and 3000", 1500, net.meanError());
        checks.due("meanError() of 45 pairs at one place", 1000, Nets.allKnown(10, 3).meanError());
    }

    @Sentence(in = "Promise 17", words = "or NONE if no rtt is known")
    static void p17None(Checks checks) {
        NetworkCoordinates net = new NetworkCoordinates();
        checks.due("meanError() at first", Due.NONE, net.meanError());
        net.setRtt(3, 4, 5);
        checks.due("meanError() of one", 1000, net.meanError());
        net.setRtt(4, 3, 0);
        checks.due("meanError() of none again", Due.NONE, net.meanError());
        net.setRtt(3, 4, 5);
        net.reset(2);
        checks.due("meanError() after reset", Due.NONE, net.meanError());
    }

    @Sentence(in = "Promise 18", words = "Returns the pair with the greatest relative error")
    static void p18ReturnsTheWorst(Checks checks) {
        NetworkCoordinates net = Nets.of(5);
        net.place(4, 60, 0, 0);
        net.setRtt(0, 4, 60);
        checks.due("worstPair() of 0 alone", 4, net.worstPair());
        net.setRtt(1, 4, 50);
        checks.due("worstPair() of 0 and 200", 14, net.worstPair());
        net.setRtt(3, 4, 40);
        checks.due("worstPair() of 0, 200 and 500", 34, net.worstPair());
        net.setRtt(2, 4, 90);
        checks.due("worstPair() with 333, too near", 34, net.worstPair());
        net.setRtt(2, 4, 200);
        checks.due("worstPair() with 700, too near", 24, net.worstPair());
        net.setLie(0, 20000);
        net.setLie(1, 20000);
        checks.due("worstPair() without any lie", 24, net.worstPair());
        net.setRtt(2, 4, 0);
        checks.due("worstPair() with the worst made unknown", 34, net.worstPair());
    }

    @Sentence(in = "Promise 18", words = "the first in pair order if several have it")
    static void p18ReturnsTheFirstOfSeveral(Checks checks) {
        NetworkCoordinates net = Nets.allKnown(10, 5);
        for (int a = 0; a < 10; a++) {
            for (int b = a + 1; b < 10; b++) {
                checks.due("worstPair()", 10 * a + b, net.worstPair());
                net.setRtt(a, b, 0);
            }
        }
        net = Nets.of(5);
        net.place(4, 60, 0, 0);
        net.setRtt(0, 4, 60);
        net.setRtt(1, 4, 50);
        net.setRtt(2, 4, 50);
        checks.due("worstPair() of two behind a better one", 14, net.worstPair());
    }

    @Sentence(in = "Promise 18", words = "as 10 * a + b")
    static void p18ReturnsBothNodes(Checks checks) {
        for (int a = 0; a < 10; a++) {
            for (int b = a + 1; b < 10; b++) {
                NetworkCoordinates net = Nets.of(10);
                net.setRtt(b, a, 5);
                checks.due("worstPair()", 10 * a + b, net.worstPair());
            }
        }
    }

    @Sentence(in = "Promise 18", words = "or NONE if no rtt is known")
    static void p18None(Checks checks) {
        NetworkCoordinates net = new NetworkCoordinates();
        checks.due("worstPair() at first", Due.NONE, net.worstPair());
        net.setRtt(0, 1, 5);
        net.setRtt(0, 1, 0);
        checks.due("worstPair() of none again", Due.NONE, net.worstPair());
        net = Nets.apart(5, 5);
        checks.due("worstPair() of an exact one", 1, net.worstPair());
        net.reset(2);
        checks.due("worstPair() after reset", Due.NONE, net.worstPair());
    }

    @Sentence(in = "Promise 19", words = "Returns the relative error of a pair")
    static void p19ReturnsTheErrorOfThePair(Checks checks) {
        NetworkCoordinates net = Nets.of(3);
        net.place(0, 10, 0, 0);
        net.place(1, 0, 20, 0);
        net.place(2, 0, 0, 30);
        net.setRtt(0, 1, 44);
        net.setRtt(0, 2, 30);
        net.setRtt(1, 2, 100);
        checks.due("relativeError(0, 1), 22 of 44", 500, net.relativeError(0, 1));
        checks.due("relativeError(1, 0)", 500, net.relativeError(1, 0));
        checks.due("relativeError(0, 2), 40 of 30", 333, net.relativeError(0, 2));
        checks.due("relativeError(2, 1), 50 of 100", 500, net.relativeError(2, 1));
    }

    @Sentence(in = "Promise 19", words = "Returns the relative error")
    static void p19ReturnsTheErrorFromEndToEnd(Checks checks) {
        NetworkCoordinates net = Nets.two(100000, 100000, 100000, 100000, 1);
        net.place(1, -100000, -100000, 100000);
        checks.due("relativeError(0, 1), the greatest", 482841000, net.relativeError(0, 1));
        checks.due("relativeError(0, 1) of 0", 0, Nets.apart(77, 77).relativeError(0, 1));
        checks.due("relativeError(0, 1), 1 of 20000", 0,
                Nets.apart(19999, 20000).relativeError(0, 1));
        checks.due("relativeError(0, 1), 20 of 20000", 1,
                Nets.apart(19980, 20000).relativeError(0, 1));
    }

    @Sentence(in = "Promise 19", words = "NO_SUCH_NODE if a or b is not a node (checked first)")
    static void p19NoSuchNode(Checks checks) {
        Refusals.noSuchNodes(checks, NetworkCoordinates::relativeError);
    }

    @Sentence(in = "Promise 19", words = "SAME_NODE if a equals b (checked second)")
    static void p19SameNode(Checks checks) {
        Refusals.sameNode(checks, NetworkCoordinates::relativeError);
    }

    @Sentence(in = "Promise 19", words = "UNKNOWN_RTT if the rtt is unknown")
    static void p19UnknownRtt(Checks checks) {
        Refusals.unknownRtt(checks, NetworkCoordinates::relativeError);
    }

    private static void ranked(Checks checks, NetworkCoordinates net, int node, int... due) {
        for (int rank = 0; rank < due.length; rank++) {
            checks.due("nearest(" + node + ", " + rank + ")", due[rank], net.nearest(node, rank));
        }
    }

    @Sentence(in = "Promise 20", words = "Returns a node by its predicted rtt from another node")
    static void p20RanksByThePrediction(Checks checks) {
        NetworkCoordinates net = Nets.of(4);
        net.place(1, 10, 0, 50);
        net.place(2, 0, -40, 0);
        net.place(3, 20, 0, 21);
        ranked(checks, net, 0, 2, 3, 1);
        net.setRtt(0, 1, 1);
        net.setRtt(0, 2, 9000);
        net.setLie(2, 9000);
        ranked(checks, net, 0, 2, 3, 1);
        // From 3 it is 41 to 0, 81 to 1 and 65 to 2.
        ranked(checks, net, 3, 0, 2, 1);
        // From 1 it is 60 to 0, 91 to 2 and 81 to 3.
        ranked(checks, net, 1, 0, 3, 2);
    }

    @Sentence(in = "Promise 20", words = "`rank`: 0 for the nearest of all other nodes, 1 for the "
            + "second nearest, and so on")
    static void p20RanksAllOtherNodes(Checks checks) {
        NetworkCoordinates net = Nets.of(10);
        for (int node = 0; node < 10; node++) {
            net.place(node, 1000 - node * node, 0, 0);
        }
        ranked(checks, net, 9, 8, 7, 6, 5, 4, 3, 2, 1, 0);
        ranked(checks, net, 0, 1, 2, 3, 4, 5, 6, 7, 8, 9);
        // From 4 it is 7 to 3, 9 to 5, 12 to 2, 15 to 1, 16 to 0, 20 to 6.
        ranked(checks, net, 4, 3, 5, 2, 1, 0, 6, 7, 8, 9);
        net.reset(2);
        ranked(checks, net, 0, 1);
        ranked(checks, net, 1, 0);
    }

    @Sentence(in = "Promise 20", words = "equal predicted rtts are ranked by ascending index")
    static void p20RanksEqualOnesByIndex(Checks checks) {
        ranked(checks, Nets.of(10), 0, 1, 2, 3, 4, 5, 6, 7, 8, 9);
        ranked(checks, Nets.of(10), 4, 0, 1, 2, 3, 5, 6, 7, 8, 9);
        NetworkCoordinates net = Nets.of(6);
        net.place(0, 0, 30, 0);
        net.place(1, 7, 0, 0);
        net.place(3, -30, 0, 0);
        net.place(4, 0, 0, 7);
        net.place(5, 18, 24, 0);
        ranked(checks, net, 2, 1, 4, 0, 3, 5);
    }

    @Sentence(in = "Promise 20", words = "Returns the node")
    static void p20ReturnsEachOtherNodeOnce(Checks checks) {
        for (int n = 2; n <= 10; n++) {
            NetworkCoordinates net = Nets.of(n);
            for (int node = 0; node < n; node++) {
                net.place(node, node * 7 % 10, node * 3 % 4, node % 3);
            }
            for (int node = 0; node < n; node++) {
                int seen = 1 << node;
                for (int rank = 0; rank < n - 1; rank++) {
                    seen |= 1 << net.nearest(node, rank);
                }
                checks.due("the nodes seen from " + node + " of " + n, (1 << n) - 1, seen);
            }
        }
    }

    @Sentence(in = "Promise 20", words = "NO_SUCH_NODE if node is not a node (checked first)")
    static void p20NoSuchNode(Checks checks) {
        Refusals.noSuchNode(checks, (net, node) -> net.nearest(node, 0));
        for (int rank : Edges.beyond(0, 3)) {
            NetworkCoordinates net = Nets.of(5);
            checks.due("nearest(5, " + rank + ")", Due.NO_SUCH_NODE, net.nearest(5, rank));
            checks.due("nearest(-1, " + rank + ")", Due.NO_SUCH_NODE, net.nearest(-1, rank));
        }
    }

    @Sentence(in = "Promise 20", words = "OUT_OF_RANGE if rank is not 0 to n - 2")
    static void p20OutOfRange(Checks checks) {
        for (int n = 2; n <= 10; n++) {
            NetworkCoordinates net = Nets.of(n);
            for (int node = 0; node < n; node++) {
                for (int rank : Edges.beyond(0, n - 2)) {
                    String call = "nearest(" + node + ", " + rank + ") of " + n;
                    checks.due(call, Due.OUT_OF_RANGE, net.nearest(node, rank));
                }
                int last = node == n - 1 ? n - 2 : n - 1;
                checks.due("nearest(" + node + ", n - 2)", last, net.nearest(node, n - 2));
            }
        }
    }

    @Sentence(in = "Promise 21", words = "Returns the best relay between two nodes: the third "
            + "node for which the predicted rtt from a to it plus the predicted rtt from it to b "
            + "is smallest")
    static void p21ReturnsTheShortestWay(Checks checks) {
        NetworkCoordinates net = Nets.of(5);
        net.place(1, 100, 0, 0);
        net.place(2, 50, 0, 6);
        net.place(3, 30, 40, 0);
        net.place(4, -5, 0, 0);
        // By 2 it is 56 and 56, by 3 50 and 80, by 4 5 and 105.
        checks.due("relay(0, 1)", 4, net.relay(0, 1));
        checks.due("relay(1, 0)", 4, net.relay(1, 0));
        net.place(4, -7, 0, 0);
        checks.due("relay(0, 1) with 4 too far", 2, net.relay(0, 1));
        // The height of the relay counts twice, once for each way.
        net.place(2, 50, 0, 8);
        checks.due("relay(0, 1) with 2 higher", 4, net.relay(0, 1));
        net.setRtt(0, 3, 1);
        net.setRtt(1, 3, 1);
        checks.due("relay(0, 1) whatever the rtts", 4, net.relay(0, 1));
        net.place(2, 50000, 50000, 100000);
        net.place(4, -7, 50000, 100000);
        checks.due("relay(0, 1) with 2 and 4 too far", 3, net.relay(0, 1));
        net = Nets.of(3);
        net.place(0, 100000, 100000, 100000);
        net.place(1, 100000, 100000, 100000);
        net.place(2, -100000, -100000, 100000);
        checks.due("relay(0, 1) by the longest way", 2, net.relay(0, 1));
    }

    @Sentence(in = "Promise 21", words = "the smallest index if several are best")
    static void p21ReturnsTheSmallestOfSeveral(Checks checks) {
        NetworkCoordinates net = Nets.of(10);
        for (int a = 0; a < 10; a++) {
            for (int b = 0; b < 10; b++) {
                if (a != b) {
                    int due = a != 0 && b != 0 ? 0 : a != 1 && b != 1 ? 1 : 2;
                    checks.due("relay(" + a + ", " + b + ")", due, net.relay(a, b));
                }
            }
        }
        net = Nets.of(6);
        net.place(1, 100, 0, 0);
        net.place(2, 50, 0, 9);
        net.place(3, 50, 0, 5);
        net.place(4, 105, 0, 0);
        net.place(5, -5, 0, 0);
        checks.due("relay(0, 1) of 3, 4 and 5", 3, net.relay(0, 1));
    }

    @Sentence(in = "Promise 21", words = "Returns the relay")
    static void p21ReturnsTheThirdOfThree(Checks checks) {
        NetworkCoordinates net = Nets.of(3);
        for (int a = 0; a < 3; a++) {
            for (int b = 0; b < 3; b++) {
                if (a != b) {
                    checks.due("relay(" + a + ", " + b + ")", 3 - a - b, net.relay(a, b));
                }
            }
        }
    }

    @Sentence(in = "Promise 21", words = "NO_SUCH_NODE if a or b is not a node (checked first)")
    static void p21NoSuchNode(Checks checks) {
        Refusals.noSuchNodes(checks, NetworkCoordinates::relay);
    }

    @Sentence(in = "Promise 21", words = "SAME_NODE if a equals b (checked second)")
    static void p21SameNode(Checks checks) {
        Refusals.sameNode(checks, NetworkCoordinates::relay);
    }

    @Sentence(in = "Promise 21", words = "NONE if n is 2")
    static void p21None(Checks checks) {
        NetworkCoordinates net = Nets.apart(100, 100);
        checks.due("relay(0, 1) of two", Due.NONE, net.relay(0, 1));
        checks.due("relay(1, 0) of two", Due.NONE, net.relay(1, 0));
        net.reset(3);
        checks.due("relay(0, 1) of three", 2, net.relay(0, 1));
        net.reset(2);
        checks.due("relay(0, 1) of two again", Due.NONE, net.relay(0, 1));
    }
}
