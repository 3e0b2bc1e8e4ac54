/** Promises 27 and 28: save and restore. */
public final class SlotsTest {
    private static final int OUT_OF_RANGE = -1000002;
    private static final int UNKNOWN_RTT = -1000004;
    private static final int NOT_SAVED = -1000006;
    private static final Checks CHECKS = new Checks();

    public static void main(String[] args) {
        wholeState();
        slotKeepsWhatItHas();
        slotsAreTwo();
        saveOverwrites();
        restoreTheInitialState();
        faults();
        CHECKS.end();
    }

    private static void stands(String what, Picture due, NetworkCoordinates net) {
        String difference = due.difference(net);
        CHECKS.holds(what + " " + difference, difference.isEmpty());
    }

    private static NetworkCoordinates busy() {
        NetworkCoordinates net = new NetworkCoordinates();
        net.reset(6);
        net.place(5, 100, 200, 30);
        net.place(0, -100, -200, 40);
        net.setRtt(0, 5, 700);
        net.setRtt(1, 2, 90);
        net.setLie(5, 11);
        net.setGains(500, 600);
        net.setMaxStep(77);
        net.run(8);
        return net;
    }

    private static void wholeState() {
        NetworkCoordinates net = busy();
        Picture before = new Picture(net, 6);
        CHECKS.due("save(0)", 1, net.save(0));
        stands("save changes nothing", before, net);
        net.reset(2);
        net.place(0, 1, 1, 1);
        net.setRtt(0, 1, 1);
        net.setLie(0, 1);
        net.setGains(1, 1);
        net.setMaxStep(1);
        net.run(3);
        CHECKS.due("restore(0)", 1, net.restore(0));
        stands("restore brings all", before, net);
        CHECKS.due("reset(2) of the restored nodes", 6, net.reset(2));
    }

    private static void slotKeepsWhatItHas() {
        NetworkCoordinates net = busy();
        Picture before = new Picture(net, 6);
        net.save(1);
        for (int i = 0; i < 3; i++) {
            net.place(5, i, i, i);
            net.setRtt(0, 5, 0);
            net.setLie(5, 0);
            net.run(1);
            CHECKS.due("restore(1), time " + i, 1, net.restore(1));
            stands("the slot keeps all", before, net);
        }
    }

    private static void slotsAreTwo() {
        NetworkCoordinates net = new NetworkCoordinates();
        net.place(0, 7, 0, 0);
        net.save(0);
        CHECKS.due("restore(1) after save(0)", NOT_SAVED, net.restore(1));
        net.place(0, 8, 0, 0);
        net.save(1);
        net.place(0, 9, 0, 0);
        net.restore(0);
        CHECKS.due("x(0) of slot 0", 7, net.x(0));
        net.restore(1);
        CHECKS.due("x(0) of slot 1, which restore(0) left", 8, net.x(0));
        net.save(0);
        net.restore(0);
        CHECKS.due("x(0) of slot 1 by slot 0", 8, net.x(0));
    }

    private static void saveOverwrites() {
        NetworkCoordinates net = busy();
        net.save(0);
        net.reset(3);
        net.place(2, 5, 6, 7);
        Picture later = new Picture(net, 3);
        CHECKS.due("save(0) again", 1, net.save(0));
        net.reset(10);
        CHECKS.due("restore(0) of the later", 1, net.restore(0));
        stands("the later stands", later, net);
        net.reset(6);
        CHECKS.due("rtt(0, 5) of the former", UNKNOWN_RTT, net.rtt(0, 5));
    }

    private static void restoreTheInitialState() {
        NetworkCoordinates net = new NetworkCoordinates();
        Picture initial = new Picture(net, 5);
        net.save(1);
        net.setRtt(0, 1, 100);
        net.run(5);
        net.setGains(9, 9);
        CHECKS.due("restore(1) of the initial state", 1, net.restore(1));
        stands("initial", initial, net);
    }

    private static void faults() {
        NetworkCoordinates net = new NetworkCoordinates();
        for (int slot : Edges.beyond(0, 1)) {
            CHECKS.due("save(" + slot + ")", OUT_OF_RANGE, net.save(slot));
            CHECKS.due("restore(" + slot + ")", OUT_OF_RANGE, net.restore(slot));
        }
        CHECKS.due("restore(0)", NOT_SAVED, net.restore(0));
        CHECKS.due("restore(1)", NOT_SAVED, net.restore(1));
        net.save(0);
        net.save(1);
        for (int slot : Edges.beyond(0, 1)) {
            CHECKS.due("restore(" + slot + ") of two saved", OUT_OF_RANGE, net.restore(slot));
        }
    }
}
