/** Promises 22 to 25: triangles, the violated ones and their nodes. */
public final class TriangleSentencesTest {
    public static void main(String[] args) {
        Sentences.run(TriangleSentencesTest.class);
    }

    private static NetworkCoordinates triangle(NetworkCoordinates net, int a, int b, int c,
            int ab, int bc, int ac) {
        net.setRtt(a, b, ab);
        net.setRtt(b, c, bc);
        net.setRtt(a, c, ac);
        return net;
    }

    @Sentence(in = "Promise 22", words = "Returns the number of triangles")
    static void p22CountsTriangles(Checks checks) {
        checks.due("triangles() without rtts", 0, Nets.of(10).triangles());
        checks.due("triangles() of two nodes", 0, Nets.allKnown(2, 5).triangles());
        int due = 0;
        for (int n = 3; n <= 10; n++) {
            // The node n - 1 makes one with each two of the others.
            due += (n - 1) * (n - 2) / 2;
            checks.due("triangles() of " + n, due, Nets.allKnown(n, 5).triangles());
        }
        NetworkCoordinates net = Nets.allKnown(5, 5);
        net.setRtt(4, 0, 0);
        checks.due("triangles() without 0, 4", 7, net.triangles());
        net.setRtt(0, 1, 2000);
        checks.due("triangles(), violated or not", 7, net.triangles());
        net = triangle(Nets.of(10), 9, 0, 8, 1, 1, 1);
        checks.due("triangles() of 0, 8, 9", 1, net.triangles());
    }

    @Sentence(in = "Promise 23", words = "Returns the number of violated triangles")
    static void p23CountsViolatedTriangles(Checks checks) {
        checks.due("violations() without rtts", 0, Nets.of(10).violations());
        NetworkCoordinates net = Nets.allKnown(10, 100);
        checks.due("violations() of equal rtts", 0, net.violations());
        net.setRtt(0, 9, 200);
        checks.due("violations() of just not violated ones", 0, net.violations());
        net.setRtt(0, 9, 201);
        checks.due("violations() with 0, 9", 8, net.violations());
        net.setRtt(4, 5, 20000);
        checks.due("violations() with 4, 5 too", 16, net.violations());
        net.setRtt(9, 8, 201);
        // 8 and 9 with each of 1 to 7; but 0, 8, 9 with 201, 201 and 100 isn't violated any more.
        checks.due("violations() with 8, 9 too", 22, net.violations());
        checks.due("violations() of all of ten", 120, allViolated().violations());
        checks.due("violations() of one", 1, triangle(Nets.of(3), 0, 1, 2, 1, 5, 3).violations());
    }

    /** In a, b, c the rtts of a are equal, and that of b and c is greater than both together. */
    private static NetworkCoordinates allViolated() {
        NetworkCoordinates net = Nets.of(10);
        for (int a = 0; a < 10; a++) {
            for (int b = a + 1; b < 10; b++) {
                net.setRtt(a, b, (2 << a) - 1);
            }
        }
        return net;
    }

    @Sentence(in = "Promise 24", words = "Returns the greatest excess of a violated triangle")
    static void p24ReturnsTheGreatestExcess(Checks checks) {
        NetworkCoordinates net = triangle(Nets.of(10), 0, 1, 2, 10, 10, 25);
        checks.due("worstExcess() of 5", 5, net.worstExcess());
        triangle(net, 7, 8, 9, 10, 10, 28);
        checks.due("worstExcess() of 5 and 8", 8, net.worstExcess());
        triangle(net, 3, 4, 5, 10, 26, 10);
        checks.due("worstExcess() of 5, 6 and 8", 8, net.worstExcess());
        net.setRtt(7, 9, 0);
        checks.due("worstExcess() of 5 and 6", 6, net.worstExcess());
        triangle(net, 3, 4, 5, 1, 1, 20000);
        checks.due("worstExcess(), the greatest", 19998, net.worstExcess());
        net.setRtt(7, 9, 28);
        checks.due("worstExcess(), the greatest between both others", 19998, net.worstExcess());
        net.setRtt(3, 4, 0);
        net.setRtt(0, 2, 700);
        checks.due("worstExcess(), the greatest first", 680, net.worstExcess());
    }

    @Sentence(in = "Promise 24", words = "or NONE if no triangle is violated")
    static void p24None(Checks checks) {
        noneViolated(checks, "worstExcess", NetworkCoordinates::worstExcess);
        NetworkCoordinates net = triangle(Nets.of(3), 0, 1, 2, 5, 5, 11);
        checks.due("worstExcess(), the smallest", 1, net.worstExcess());
    }

    private interface Call {
        int of(NetworkCoordinates net);
    }

    private static void noneViolated(Checks checks, String name, Call call) {
        checks.due(name + "() without rtts", Due.NONE, call.of(Nets.of(10)));
        checks.due(name + "() of two nodes", Due.NONE, call.of(Nets.allKnown(2, 20000)));
        checks.due(name + "() of equal rtts", Due.NONE, call.of(Nets.allKnown(10, 20000)));
        NetworkCoordinates net = triangle(Nets.of(3), 0, 1, 2, 5, 5, 10);
        checks.due(name + "() of one just not violated", Due.NONE, call.of(net));
        net.setRtt(0, 2, 11);
        net.setRtt(0, 1, 0);
        checks.due(name + "() of a violated one made unknown", Due.NONE, call.of(net));
    }

    @Sentence(in = "Promise 25", words = "Returns the node that is in most violated triangles")
    static void p25ReturnsTheNodeInMost(Checks checks) {
        NetworkCoordinates net = Nets.of(10);
        triangle(net, 0, 1, 2, 1, 1, 9);
        triangle(net, 2, 3, 4, 1, 1, 9);
        checks.due("suspect(), 2 in two", 2, net.suspect());
        triangle(net, 9, 7, 8, 1, 1, 9);
        triangle(net, 9, 5, 6, 1, 1, 9);
        triangle(net, 9, 3, 5, 1, 9, 1);
        checks.due("suspect(), 9 in three", 9, net.suspect());
        // Triangles that are not violated do not count.
        triangle(net, 9, 7, 8, 9, 9, 9);
        triangle(net, 9, 5, 6, 9, 9, 9);
        triangle(net, 9, 3, 5, 9, 9, 9);
        checks.due("suspect(), 2 in two again", 2, net.suspect());
        // What counts is how many they are, not how much they are violated.
        triangle(net, 7, 8, 9, 1, 1, 20000);
        checks.due("suspect(), 2 in two still", 2, net.suspect());
    }

    @Sentence(in = "Promise 25", words = "the smallest index if several are")
    static void p25ReturnsTheSmallestOfSeveral(Checks checks) {
        NetworkCoordinates net = triangle(Nets.of(10), 9, 8, 7, 1, 1, 9);
        checks.due("suspect() of 7, 8 and 9", 7, net.suspect());
        triangle(net, 6, 5, 9, 1, 1, 9);
        triangle(net, 4, 3, 8, 1, 1, 9);
        checks.due("suspect() of 8 and 9 in two each", 8, net.suspect());
        triangle(net, 2, 1, 0, 1, 1, 9);
        checks.due("suspect() of 8 and 9 still", 8, net.suspect());
        checks.due("suspect() of all ten in all", 0, allViolated().suspect());
    }

    @Sentence(in = "Promise 25", words = "or NONE if no triangle is violated")
    static void p25None(Checks checks) {
        noneViolated(checks, "suspect", NetworkCoordinates::suspect);
        NetworkCoordinates net = triangle(Nets.of(3), 0, 1, 2, 5, 5, 11);
        checks.due("suspect() of one just violated", 0, net.suspect());
    }
}
