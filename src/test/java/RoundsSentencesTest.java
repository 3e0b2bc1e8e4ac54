/** The Description's ROUNDS, QUALITY and TRIANGLES. */
public final class RoundsSentencesTest {
    public static void main(String[] args) {
        Sentences.run(RoundsSentencesTest.class);
    }

    @Sentence(in = "ROUNDS", words = "Let r be the round counter, which is 0 after a reset")
    static void roundCounterIs0AfterAReset(Checks checks) {
        NetworkCoordinates net = Nets.allKnown(5, 800);
        checks.due("roundCounter() at first", 0, net.roundCounter());
        net.run(2);
        net.reset(5);
        checks.due("roundCounter() after reset", 0, net.roundCounter());
        // With r = 2 node 0 would measure node 3.
        net.setRtt(0, 1, 800);
        checks.due("run(1) after reset", 1, net.run(1));
        checks.due("x(0), as node 0 has measured node 1", 100, net.x(0));
    }

    @Sentence(in = "ROUNDS", words = "In a round each node a, in ascending order, measures node "
            + "b = (a + 1 + (r mod (n - 1))) mod n, if the rtt of that pair is known")
    static void eachNodeMeasuresTheNextOne(Checks checks) {
        for (int n = 2; n <= 10; n++) {
            for (int a = 0; a < n; a++) {
                for (int b = a + 1; b < n; b++) {
                    whenBothMeasure(checks, n, a, b);
                }
            }
        }
        inAscendingOrder(checks);
    }

    /** Over two turns of r mod (n - 1), where only the pair a, b is known. */
    private static void whenBothMeasure(Checks checks, int n, int a, int b) {
        NetworkCoordinates net = Nets.of(n);
        net.setRtt(a, b, 800);
        for (int r = 0; r < 2 * (n - 1); r++) {
            int ahead = 1 + r % (n - 1);
            boolean aMeasures = (a + ahead) % n == b;
            boolean bMeasures = (b + ahead) % n == a;
            int xOfA = net.x(a);
            int xOfB = net.x(b);
            String when = n + " nodes, pair " + a + ", " + b + ", r = " + r + ": ";
            int due = (aMeasures ? 1 : 0) + (bMeasures ? 1 : 0);
            checks.due(when + "measurements", due, net.run(1));
            checks.holds(when + "a moves if it measures", net.x(a) != xOfA == aMeasures);
            checks.holds(when + "b moves if it measures", net.x(b) != xOfB == bMeasures);
        }
    }

    /** 0 measures 1 and 1 measures 2, each at its own place; 2 measures 0, which has gone away. */
    private static void inAscendingOrder(Checks checks) {
        NetworkCoordinates net = Nets.allKnown(3, 800);
        checks.due("run(1)", 3, net.run(1));
        checks.due("x(0)", 100, net.x(0));
        checks.due("x(1)", 100, net.x(1));
        checks.due("x(2)", -87, net.x(2));
    }

    @Sentence(in = "ROUNDS", words = "Each update takes effect before the next node measures")
    static void updatesTakeEffectAtOnce(Checks checks) {
        NetworkCoordinates net = Nets.apart(0, 300);
        net.run(1);
        checks.due("x(0)", 37, net.x(0));
        // At one place still, node 1 would go to 37 too.
        checks.due("x(1)", -32, net.x(1));
        // 0 measures 1 exactly and is surer then, which makes the weight of 1 533.
        net = Nets.apart(100, 100);
        net.run(1);
        checks.due("error(0)", 875, net.error(0));
        checks.due("error(1)", 867, net.error(1));
    }

    @Sentence(in = "ROUNDS", words = "The round counter increases by 1 after each round, even if "
            + "no rtt was known in it")
    static void roundCounterIncreases(Checks checks) {
        NetworkCoordinates net = Nets.of(5);
        net.run(1);
        checks.due("roundCounter() without rtts", 1, net.roundCounter());
        net.run(100);
        checks.due("roundCounter() after 100 more", 101, net.roundCounter());
        net.setRtt(0, 2, 9);
        net.run(1);
        checks.due("roundCounter() after one with a measurement", 102, net.roundCounter());
        net.run(2);
        checks.due("roundCounter() after two, of which one had none", 104, net.roundCounter());
        checks.due("roundCounter() asked again", 104, net.roundCounter());
        net = Nets.allKnown(5, 9);
        net.run(3);
        checks.due("roundCounter() after three, each with five", 3, net.roundCounter());
    }

    @Sentence(in = "QUALITY", words = "The relative error of a pair with known rtt is 1000 * "
            + "|predicted rtt - rtt| / rtt, without any lie")
    static void relativeErrorIsWithoutAnyLie(Checks checks) {
        NetworkCoordinates net = Nets.apart(200, 100);
        net.setLie(0, 77);
        net.setLie(1, 20000);
        checks.due("too far by the rtt", 1000, net.relativeError(0, 1));
        checks.due("from the other", 1000, net.relativeError(1, 0));
        net.setRtt(0, 1, 200);
        checks.due("exact", 0, net.relativeError(0, 1));
        net.setRtt(0, 1, 201);
        checks.due("too near by 1", 4, net.relativeError(0, 1));
        net.setRtt(0, 1, 199);
        checks.due("too far by 1", 5, net.relativeError(0, 1));
        net.setRtt(0, 1, 1);
        checks.due("much too far: no limit at 1000", 199000, net.relativeError(0, 1));
        net.place(0, 0, 0, 0);
        checks.due("at one place", 1000, net.relativeError(0, 1));
        checks.due("meanError()", 1000, net.meanError());
        checks.due("worstPair()", 1, net.worstPair());
    }

    @Sentence(in = "QUALITY", words = "Pairs are written as a, b with a less than b and are "
            + "ordered by a, then by b")
    static void pairsAreOrdered(Checks checks) {
        // At one place all relative errors are 1000: the first pair in order is the worst.
        NetworkCoordinates net = Nets.of(10);
        int[][] pairs = {{9, 8}, {8, 7}, {9, 7}, {8, 5}, {6, 5}, {9, 3}, {4, 3}, {9, 1}, {2, 1},
            {9, 0}, {8, 0}, {1, 0}};
        int[] due = {89, 78, 78, 58, 56, 39, 34, 19, 12, 9, 8, 1};
        for (int i = 0; i < due.length; i++) {
            net.setRtt(pairs[i][0], pairs[i][1], 5);
            checks.due("worstPair() with " + pairs[i][1] + ", " + pairs[i][0], due[i],
                    net.worstPair());
        }
    }

    private static void trianglesDue(Checks checks, String when, NetworkCoordinates net, int all,
            int violated, int worst) {
        checks.due(when + ": triangles()", all, net.triangles());
        checks.due(when + ": violations()", violated, net.violations());
        checks.due(when + ": worstExcess()", worst, net.worstExcess());
    }

    @Sentence(in = "TRIANGLES",
            words = "A triangle is three different nodes whose three rtts are all known")
    static void triangleHasThreeKnownRtts(Checks checks) {
        NetworkCoordinates net = Nets.of(4);
        trianglesDue(checks, "no rtt", net, 0, 0, Due.NONE);
        net.setRtt(0, 1, 1);
        net.setRtt(0, 2, 9);
        trianglesDue(checks, "two rtts of three nodes", net, 0, 0, Due.NONE);
        net.setRtt(0, 3, 30);
        trianglesDue(checks, "three rtts that meet in one node", net, 0, 0, Due.NONE);
        net.setRtt(0, 2, 0);
        net.setRtt(1, 2, 9);
        trianglesDue(checks, "three rtts in a row", net, 0, 0, Due.NONE);
        net.setRtt(2, 3, 9);
        trianglesDue(checks, "four rtts in a ring", net, 0, 0, Due.NONE);
        net.setRtt(3, 1, 5);
        trianglesDue(checks, "two triangles", net, 2, 1, 24);
        net.setRtt(1, 3, 0);
        trianglesDue(checks, "made unknown", net, 0, 0, Due.NONE);
    }

    @Sentence(in = "TRIANGLES",
            words = "It is violated if one of its rtts is greater than the sum of the other two")
    static void violatedIfOneIsGreaterThanTheOtherTwo(Checks checks) {
        for (int[] side : new int[][] {{1, 2, 0}, {2, 0, 1}, {0, 1, 2}}) {
            NetworkCoordinates net = Nets.of(3);
            net.setRtt(side[0], side[1], 7);
            net.setRtt(side[1], side[2], 12);
            String greatest = "greatest " + side[0] + ", " + side[2] + ": ";
            net.setRtt(side[0], side[2], 18);
            trianglesDue(checks, greatest + "less", net, 1, 0, Due.NONE);
            net.setRtt(side[0], side[2], 19);
            trianglesDue(checks, greatest + "the same", net, 1, 0, Due.NONE);
            net.setRtt(side[0], side[2], 20);
            trianglesDue(checks, greatest + "greater", net, 1, 1, 1);
        }
        NetworkCoordinates net = Nets.allKnown(3, 20000);
        trianglesDue(checks, "three longest", net, 1, 0, Due.NONE);
    }

    @Sentence(in = "TRIANGLES", words = "The excess of a violated triangle is its greatest rtt "
            + "minus the sum of the other two")
    static void excess(Checks checks) {
        for (int[] side : new int[][] {{1, 2, 0}, {2, 0, 1}, {0, 1, 2}}) {
            NetworkCoordinates net = Nets.of(3);
            net.setRtt(side[0], side[1], 3);
            net.setRtt(side[1], side[2], 40);
            net.setRtt(side[0], side[2], 500);
            checks.due("500 - 3 - 40", 457, net.worstExcess());
            net.setRtt(side[0], side[2], 44);
            checks.due("the smallest", 1, net.worstExcess());
            net.setRtt(side[0], side[1], 1);
            net.setRtt(side[1], side[2], 1);
            net.setRtt(side[0], side[2], 20000);
            checks.due("the greatest", 19998, net.worstExcess());
            net.setLie(side[0], 20000);
            net.setLie(side[1], 20000);
            checks.due("without any lie", 19998, net.worstExcess());
        }
    }
}
