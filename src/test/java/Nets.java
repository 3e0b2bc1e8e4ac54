/** Objects to begin a test with, and what a node shows. */
final class Nets {
    private Nets() {
    }

    static NetworkCoordinates of(int n) {
        NetworkCoordinates net = new NetworkCoordinates();
        net.reset(n);
        return net;
    }

    /** Each pair with the same rtt. */
    static NetworkCoordinates allKnown(int n, int rtt) {
        NetworkCoordinates net = of(n);
        for (int a = 0; a < n; a++) {
            for (int b = a + 1; b < n; b++) {
                net.setRtt(a, b, rtt);
            }
        }
        return net;
    }

    /** Two nodes: 0 where the arguments say, 1 at 0, 0 with a height of its own. */
    static NetworkCoordinates two(int x, int y, int height, int otherHeight, int rtt) {
        NetworkCoordinates net = of(2);
        net.place(0, x, y, height);
        net.place(1, 0, 0, otherHeight);
        net.setRtt(0, 1, rtt);
        return net;
    }

    /** Two nodes, 0 to the right of 1. */
    static NetworkCoordinates apart(int distance, int rtt) {
        return two(distance, 0, 0, 0, rtt);
    }

    /** Two nodes 100 apart, whose error estimates have come down to 1; both gains are 1000. */
    static NetworkCoordinates sure() {
        NetworkCoordinates net = apart(100, 100);
        net.setGains(1000, 1000);
        net.run(100);
        return net;
    }

    /** Nothing is as at first: ten nodes, seven rounds, gains 300 and 400, maximum step 70. */
    static NetworkCoordinates changedEverywhere() {
        NetworkCoordinates net = of(10);
        for (int a = 0; a < 10; a++) {
            net.place(a, 10 * a + 1, -20 * a - 1, 3 * a + 1);
            net.setLie(a, a + 1);
            for (int b = a + 1; b < 10; b++) {
                net.setRtt(a, b, 100 * a + b);
            }
        }
        net.setGains(300, 400);
        net.setMaxStep(70);
        net.run(7);
        return net;
    }

    static void nodeDue(Checks checks, NetworkCoordinates net, int node, int... due) {
        checks.due("x(" + node + ")", due[0], net.x(node));
        checks.due("y(" + node + ")", due[1], net.y(node));
        checks.due("height(" + node + ")", due[2], net.height(node));
        checks.due("error(" + node + ")", due[3], net.error(node));
    }

    /** Positions, heights, error estimates, rtts, lies and the round counter. */
    static void initialDue(Checks checks, NetworkCoordinates net, int n) {
        for (int a = 0; a < n; a++) {
            nodeDue(checks, net, a, 0, 0, 0, 1000);
            checks.due("the lie of " + a, 0, net.setLie(a, 0));
            for (int b = a + 1; b < n; b++) {
                checks.due("rtt(" + a + ", " + b + ")", Due.UNKNOWN_RTT, net.rtt(a, b));
            }
        }
        checks.due("roundCounter()", 0, net.roundCounter());
    }
}
