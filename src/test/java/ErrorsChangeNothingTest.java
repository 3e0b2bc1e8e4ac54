import java.util.List;
import java.util.function.ToIntFunction;

/**
 * A call that answers an error code changes nothing: of two objects with the same history one
 * takes the refused call, and then both must answer alike, their slots included.
 */
public final class ErrorsChangeNothingTest {
    private static final int NODES = 4;
    private static final Checks CHECKS = new Checks();

    public static void main(String[] args) {
        for (Refused call : refusedCalls()) {
            changesNothing(call);
        }
        refusedRestoreOfAnEmptySlot();
        refusedCallsOfTwoNodes();
        CHECKS.end();
    }

    private static final class Refused {
        private final String text;
        private final int due;
        private final ToIntFunction<NetworkCoordinates> call;

        Refused(String text, int due, ToIntFunction<NetworkCoordinates> call) {
            this.text = text;
            this.due = due;
            this.call = call;
        }
    }

    /** With another state in each slot, and a third one at present. */
    private static NetworkCoordinates withHistory() {
        NetworkCoordinates net = new NetworkCoordinates();
        net.setRtt(0, 4, 60);
        net.run(2);
        net.save(0);
        net.reset(NODES);
        net.place(0, 10, 20, 30);
        net.place(1, -40, 50, 60);
        net.place(3, 70, -80, 90);
        net.setRtt(0, 1, 400);
        net.setRtt(1, 2, 50);
        net.setRtt(0, 2, 33);
        net.setLie(2, 5);
        net.setLie(0, 6);
        net.setGains(300, 200);
        net.setMaxStep(40);
        net.run(3);
        net.save(1);
        net.setRtt(2, 3, 9);
        net.run(5);
        return net;
    }

    private static void changesNothing(Refused refused) {
        NetworkCoordinates net = withHistory();
        CHECKS.due(refused.text, refused.due, refused.call.applyAsInt(net));
        sameAnswers(refused.text, withHistory(), net);
    }

    private static void sameAnswers(String when, NetworkCoordinates due, NetworkCoordinates net) {
        same(when, due, net, NODES);
        CHECKS.due(when + ": restore(0)", due.restore(0), net.restore(0));
        same(when + ", slot 0", due, net, 5);
        CHECKS.due(when + ": restore(1)", due.restore(1), net.restore(1));
        same(when + ", slot 1", due, net, NODES);
        CHECKS.due(when + ": reset(2)", due.reset(2), net.reset(2));
    }

    private static void same(String when, NetworkCoordinates due, NetworkCoordinates net, int n) {
        String difference = new Picture(due, n).difference(net);
        CHECKS.holds(when + " changes nothing " + difference, difference.isEmpty());
    }

    private static List<Refused> refusedCalls() {
        int noNode = NetworkCoordinates.NO_SUCH_NODE;
        int range = NetworkCoordinates.OUT_OF_RANGE;
        int same = NetworkCoordinates.SAME_NODE;
        int unknown = NetworkCoordinates.UNKNOWN_RTT;
        return List.of(
                new Refused("reset(1)", range, net -> net.reset(1)),
                new Refused("reset(11)", range, net -> net.reset(11)),
                new Refused("setRtt(0, 4, 7)", noNode, net -> net.setRtt(0, 4, 7)),
                new Refused("setRtt(-1, 0, 7)", noNode, net -> net.setRtt(-1, 0, 7)),
                new Refused("setRtt(1, 1, 7)", same, net -> net.setRtt(1, 1, 7)),
                new Refused("setRtt(0, 1, -1)", range, net -> net.setRtt(0, 1, -1)),
                new Refused("setRtt(0, 1, 20001)", range, net -> net.setRtt(0, 1, 20001)),
                new Refused("rtt(0, 3)", unknown, net -> net.rtt(0, 3)),
                new Refused("setLie(4, 7)", noNode, net -> net.setLie(4, 7)),
                new Refused("setLie(2, -1)", range, net -> net.setLie(2, -1)),
                new Refused("setLie(2, 20001)", range, net -> net.setLie(2, 20001)),
                new Refused("setGains(0, 7)", range, net -> net.setGains(0, 7)),
                new Refused("setGains(7, 0)", range, net -> net.setGains(7, 0)),
                new Refused("setGains(1001, 7)", range, net -> net.setGains(1001, 7)),
                new Refused("setGains(7, 1001)", range, net -> net.setGains(7, 1001)),
                new Refused("setMaxStep(0)", range, net -> net.setMaxStep(0)),
                new Refused("setMaxStep(20001)", range, net -> net.setMaxStep(20001)),
                new Refused("place(4, 1, 1, 1)", noNode, net -> net.place(4, 1, 1, 1)),
                new Refused("place(0, 100001, 1, 1)", range, net -> net.place(0, 100001, 1, 1)),
                new Refused("place(0, 1, -100001, 1)", range, net -> net.place(0, 1, -100001, 1)),
                new Refused("place(0, 1, 1, -1)", range, net -> net.place(0, 1, 1, -1)),
                new Refused("place(0, 1, 1, 100001)", range, net -> net.place(0, 1, 1, 100001)),
                new Refused("predict(0, 4)", noNode, net -> net.predict(0, 4)),
                new Refused("predict(3, 3)", same, net -> net.predict(3, 3)),
                new Refused("measure(4, 0)", noNode, net -> net.measure(4, 0)),
                new Refused("measure(0, 0)", same, net -> net.measure(0, 0)),
                new Refused("measure(0, 3)", unknown, net -> net.measure(0, 3)),
                new Refused("run(0)", range, net -> net.run(0)),
                new Refused("run(101)", range, net -> net.run(101)),
                new Refused("relativeError(0, 3)", unknown, net -> net.relativeError(0, 3)),
                new Refused("nearest(0, 3)", range, net -> net.nearest(0, 3)),
                new Refused("relay(2, 2)", same, net -> net.relay(2, 2)),
                new Refused("move(0, 4)", noNode, net -> net.move(0, 4)),
                new Refused("move(3, 0)", unknown, net -> net.move(3, 0)),
                new Refused("save(2)", range, net -> net.save(2)),
                new Refused("save(-1)", range, net -> net.save(-1)),
                new Refused("restore(2)", range, net -> net.restore(2)),
                new Refused("restore(-1)", range, net -> net.restore(-1)));
    }

    private static void refusedRestoreOfAnEmptySlot() {
        NetworkCoordinates net = new NetworkCoordinates();
        net.setRtt(0, 1, 100);
        net.run(9);
        Picture before = new Picture(net, 5);
        CHECKS.due("restore(1) of nothing", NetworkCoordinates.NOT_SAVED, net.restore(1));
        CHECKS.holds("restore(1) of nothing changes nothing", before.difference(net).isEmpty());
        CHECKS.due("restore(1) again", NetworkCoordinates.NOT_SAVED, net.restore(1));
    }

    private static void refusedCallsOfTwoNodes() {
        int none = NetworkCoordinates.NONE;
        NetworkCoordinates net = new NetworkCoordinates();
        net.reset(2);
        net.place(1, 3, 4, 5);
        Picture before = new Picture(net, 2);
        CHECKS.due("relay(0, 1)", none, net.relay(0, 1));
        CHECKS.due("meanError()", none, net.meanError());
        CHECKS.due("worstPair()", none, net.worstPair());
        CHECKS.due("worstExcess()", none, net.worstExcess());
        CHECKS.due("suspect()", none, net.suspect());
        CHECKS.holds("answers of NONE change nothing", before.difference(net).isEmpty());
    }
}
