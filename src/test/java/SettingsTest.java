/** Promises 1 to 8: the constructor, reset, and what a caller sets. */
public final class SettingsTest {
    private static final int NO_SUCH_NODE = -1000001;
    private static final int OUT_OF_RANGE = -1000002;
    private static final int SAME_NODE = -1000003;
    private static final int UNKNOWN_RTT = -1000004;
    private static final int NOT_SAVED = -1000006;
    private static final Checks CHECKS = new Checks();

    public static void main(String[] args) {
        constants();
        newObject();
        reset();
        resetKeepsGainsStepAndSlots();
        setRtt();
        rtt();
        setLie();
        setGains();
        setMaxStep();
        place();
        objectsShareNothing();
        CHECKS.end();
    }

    private static void constants() {
        CHECKS.due("NO_SUCH_NODE", -1000001, NetworkCoordinates.NO_SUCH_NODE);
        CHECKS.due("OUT_OF_RANGE", -1000002, NetworkCoordinates.OUT_OF_RANGE);
        CHECKS.due("SAME_NODE", -1000003, NetworkCoordinates.SAME_NODE);
        CHECKS.due("UNKNOWN_RTT", -1000004, NetworkCoordinates.UNKNOWN_RTT);
        CHECKS.due("NONE", -1000005, NetworkCoordinates.NONE);
        CHECKS.due("NOT_SAVED", -1000006, NetworkCoordinates.NOT_SAVED);
    }

    /** Promise 1. */
    private static void newObject() {
        NetworkCoordinates net = new NetworkCoordinates();
        initialNodes("new", net, 5);
        CHECKS.due("new: setGains", 2500250, net.setGains(250, 250));
        CHECKS.due("new: setMaxStep", 2000, net.setMaxStep(2000));
        CHECKS.due("new: restore(0)", NOT_SAVED, net.restore(0));
        CHECKS.due("new: restore(1)", NOT_SAVED, net.restore(1));
        CHECKS.due("new: reset(2)", 5, net.reset(2));
    }

    private static void initialNodes(String when, NetworkCoordinates net, int n) {
        for (int a = 0; a < n; a++) {
            CHECKS.due(when + ": x(" + a + ")", 0, net.x(a));
            CHECKS.due(when + ": y(" + a + ")", 0, net.y(a));
            CHECKS.due(when + ": height(" + a + ")", 0, net.height(a));
            CHECKS.due(when + ": error(" + a + ")", 1000, net.error(a));
            CHECKS.due(when + ": setLie(" + a + ", 0)", 0, net.setLie(a, 0));
            for (int b = 0; b < n; b++) {
                int due = a == b ? SAME_NODE : UNKNOWN_RTT;
                CHECKS.due(when + ": rtt(" + a + ", " + b + ")", due, net.rtt(a, b));
            }
        }
        CHECKS.due(when + ": x(" + n + ")", NO_SUCH_NODE, net.x(n));
        CHECKS.due(when + ": roundCounter()", 0, net.roundCounter());
    }

    private static NetworkCoordinates changedEverywhere() {
        NetworkCoordinates net = new NetworkCoordinates();
        net.reset(10);
        for (int a = 0; a < 10; a++) {
            net.place(a, 10 * a + 1, -20 * a - 1, 3 * a + 1);
            net.setLie(a, a + 1);
            for (int b = a + 1; b < 10; b++) {
                net.setRtt(a, b, 100 * a + b);
            }
        }
        net.setGains(300, 400);
        net.setMaxStep(70);
        net.run(7);
        return net;
    }

    /** Promise 2. */
    private static void reset() {
        NetworkCoordinates net = changedEverywhere();
        CHECKS.due("reset(2)", 10, net.reset(2));
        initialNodes("reset(2)", net, 2);
        CHECKS.due("reset(10)", 2, net.reset(10));
        initialNodes("reset(10)", net, 10);
        CHECKS.due("reset(10) again", 10, net.reset(10));
        net = changedEverywhere();
        CHECKS.due("reset(10) of 10", 10, net.reset(10));
        initialNodes("reset(10) of 10", net, 10);
        for (int n : Edges.beyond(2, 10)) {
            CHECKS.due("reset(" + n + ")", OUT_OF_RANGE, net.reset(n));
        }
        CHECKS.due("reset(0)", OUT_OF_RANGE, net.reset(0));
        CHECKS.due("reset(3) after refused ones", 10, net.reset(3));
    }

    private static void resetKeepsGainsStepAndSlots() {
        NetworkCoordinates net = changedEverywhere();
        int x = net.x(9);
        CHECKS.due("save(1)", 1, net.save(1));
        CHECKS.due("reset(4)", 10, net.reset(4));
        CHECKS.due("reset keeps the gains", 3000400, net.setGains(1, 1));
        CHECKS.due("reset keeps the maximum step", 70, net.setMaxStep(1));
        CHECKS.due("reset keeps an empty slot empty", NOT_SAVED, net.restore(0));
        CHECKS.due("reset keeps a slot", 1, net.restore(1));
        CHECKS.due("x(9) from the slot", x, net.x(9));
        CHECKS.due("roundCounter() from the slot", 7, net.roundCounter());
    }

    /** Promise 3. */
    private static void setRtt() {
        NetworkCoordinates net = new NetworkCoordinates();
        CHECKS.due("setRtt(0, 4, 0) of an unknown one", 0, net.setRtt(0, 4, 0));
        CHECKS.due("setRtt(0, 4, 1)", 0, net.setRtt(0, 4, 1));
        CHECKS.due("setRtt(4, 0, 20000)", 1, net.setRtt(4, 0, 20000));
        CHECKS.due("rtt(0, 4)", 20000, net.rtt(0, 4));
        CHECKS.due("rtt(4, 0)", 20000, net.rtt(4, 0));
        for (int rtt : Edges.beyond(0, 20000)) {
            CHECKS.due("setRtt(0, 4, " + rtt + ")", OUT_OF_RANGE, net.setRtt(0, 4, rtt));
            CHECKS.due("setRtt(3, 3, " + rtt + ")", SAME_NODE, net.setRtt(3, 3, rtt));
            CHECKS.due("setRtt(0, 5, " + rtt + ")", NO_SUCH_NODE, net.setRtt(0, 5, rtt));
        }
        for (int node : Edges.notNodes(5)) {
            CHECKS.due("setRtt(" + node + ", 0, 1)", NO_SUCH_NODE, net.setRtt(node, 0, 1));
            CHECKS.due("setRtt(0, " + node + ", 1)", NO_SUCH_NODE, net.setRtt(0, node, 1));
            CHECKS.due("setRtt(" + node + " twice)", NO_SUCH_NODE, net.setRtt(node, node, 1));
        }
        CHECKS.due("setRtt(0, 4, 0)", 20000, net.setRtt(0, 4, 0));
        CHECKS.due("rtt(4, 0) made unknown", UNKNOWN_RTT, net.rtt(4, 0));
    }

    /** Promise 4. */
    private static void rtt() {
        NetworkCoordinates net = new NetworkCoordinates();
        for (int a = 0; a < 5; a++) {
            for (int b = a + 1; b < 5; b++) {
                net.setRtt(b, a, 10 * a + b);
            }
        }
        for (int a = 0; a < 5; a++) {
            for (int b = a + 1; b < 5; b++) {
                CHECKS.due("rtt(" + a + ", " + b + ")", 10 * a + b, net.rtt(a, b));
                CHECKS.due("rtt(" + b + ", " + a + ")", 10 * a + b, net.rtt(b, a));
            }
        }
        net.setLie(1, 500);
        CHECKS.due("rtt(0, 1) without the lie", 1, net.rtt(0, 1));
        for (int node : Edges.notNodes(5)) {
            CHECKS.due("rtt(" + node + ", 0)", NO_SUCH_NODE, net.rtt(node, 0));
            CHECKS.due("rtt(0, " + node + ")", NO_SUCH_NODE, net.rtt(0, node));
            CHECKS.due("rtt(" + node + " twice)", NO_SUCH_NODE, net.rtt(node, node));
        }
        CHECKS.due("rtt(4, 4)", SAME_NODE, net.rtt(4, 4));
    }

    /** Promise 5. */
    private static void setLie() {
        NetworkCoordinates net = new NetworkCoordinates();
        CHECKS.due("setLie(4, 20000)", 0, net.setLie(4, 20000));
        CHECKS.due("setLie(4, 0)", 20000, net.setLie(4, 0));
        CHECKS.due("setLie(4, 7)", 0, net.setLie(4, 7));
        CHECKS.due("setLie(0, 1)", 0, net.setLie(0, 1));
        for (int lie : Edges.beyond(0, 20000)) {
            CHECKS.due("setLie(4, " + lie + ")", OUT_OF_RANGE, net.setLie(4, lie));
            CHECKS.due("setLie(5, " + lie + ")", NO_SUCH_NODE, net.setLie(5, lie));
        }
        for (int node : Edges.notNodes(5)) {
            CHECKS.due("setLie(" + node + ", 0)", NO_SUCH_NODE, net.setLie(node, 0));
        }
        CHECKS.due("setLie(4, 8)", 7, net.setLie(4, 8));
    }

    /** Promise 6. */
    private static void setGains() {
        NetworkCoordinates net = new NetworkCoordinates();
        CHECKS.due("setGains(1, 1000)", 2500250, net.setGains(1, 1000));
        CHECKS.due("setGains(1000, 1)", 11000, net.setGains(1000, 1));
        for (int gain : Edges.beyond(1, 1000)) {
            CHECKS.due("setGains(" + gain + ", 5)", OUT_OF_RANGE, net.setGains(gain, 5));
            CHECKS.due("setGains(5, " + gain + ")", OUT_OF_RANGE, net.setGains(5, gain));
            CHECKS.due("setGains(" + gain + " twice)", OUT_OF_RANGE, net.setGains(gain, gain));
        }
        CHECKS.due("setGains(2, 3)", 10000001, net.setGains(2, 3));
    }

    /** Promise 7. */
    private static void setMaxStep() {
        NetworkCoordinates net = new NetworkCoordinates();
        CHECKS.due("setMaxStep(1)", 2000, net.setMaxStep(1));
        CHECKS.due("setMaxStep(20000)", 1, net.setMaxStep(20000));
        for (int step : Edges.beyond(1, 20000)) {
            CHECKS.due("setMaxStep(" + step + ")", OUT_OF_RANGE, net.setMaxStep(step));
        }
        CHECKS.due("setMaxStep(3)", 20000, net.setMaxStep(3));
    }

    /** Promise 8. */
    private static void place() {
        NetworkCoordinates net = new NetworkCoordinates();
        net.setRtt(0, 1, 1000);
        net.setLie(0, 9);
        net.place(0, 300, 400, 10);
        net.place(1, 0, 0, 20);
        net.measure(0, 1);
        CHECKS.due("place(0, 100000, -100000, 100000)", 933, net.place(0, 100000, -100000, 100000));
        CHECKS.due("x(0)", 100000, net.x(0));
        CHECKS.due("y(0)", -100000, net.y(0));
        CHECKS.due("height(0)", 100000, net.height(0));
        CHECKS.due("error(0)", 1000, net.error(0));
        CHECKS.due("place(0, -100000, 100000, 0)", 1000, net.place(0, -100000, 100000, 0));
        CHECKS.due("x(0)", -100000, net.x(0));
        CHECKS.due("y(0)", 100000, net.y(0));
        CHECKS.due("height(0)", 0, net.height(0));
        CHECKS.due("place keeps the rtt", 1000, net.rtt(0, 1));
        CHECKS.due("place keeps the lie", 9, net.setLie(0, 9));
        for (int far : Edges.beyond(-100000, 100000)) {
            CHECKS.due("place(0, " + far + ", 0, 0)", OUT_OF_RANGE, net.place(0, far, 0, 0));
            CHECKS.due("place(0, 0, " + far + ", 0)", OUT_OF_RANGE, net.place(0, 0, far, 0));
            CHECKS.due("place(5, " + far + ", 0, 0)", NO_SUCH_NODE, net.place(5, far, 0, 0));
        }
        for (int high : Edges.beyond(0, 100000)) {
            CHECKS.due("place(0, 0, 0, " + high + ")", OUT_OF_RANGE, net.place(0, 0, 0, high));
            CHECKS.due("place(-1, 0, 0, " + high + ")", NO_SUCH_NODE, net.place(-1, 0, 0, high));
        }
        for (int node : Edges.notNodes(5)) {
            CHECKS.due("place(" + node + ", 0, 0, 0)", NO_SUCH_NODE, net.place(node, 0, 0, 0));
        }
        CHECKS.due("x(0) after refused ones", -100000, net.x(0));
    }

    private static void objectsShareNothing() {
        NetworkCoordinates one = changedEverywhere();
        one.save(0);
        one.save(1);
        NetworkCoordinates other = new NetworkCoordinates();
        initialNodes("beside another object", other, 5);
        CHECKS.due("beside another object: restore(0)", NOT_SAVED, other.restore(0));
        other.reset(2);
        CHECKS.due("the other object's nodes", 10, one.reset(3));
    }
}
