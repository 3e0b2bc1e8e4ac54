/** Promises 27 and 28: save and restore. */
public final class SlotSentencesTest {
    public static void main(String[] args) {
        Sentences.run(SlotSentencesTest.class);
    }

    private static void shows(Checks checks, String when, Picture due, NetworkCoordinates net) {
        String difference = due.difference(net);
        checks.due(when + " " + difference, 0, difference.length());
    }

    private static void changeAll(NetworkCoordinates net) {
        for (int node = 0; node < 10; node++) {
            net.place(node, -node, node, 5000 + node);
            net.setLie(node, 900 + node);
            for (int b = node + 1; b < 10; b++) {
                net.setRtt(node, b, node == 3 ? 0 : 20000 - b);
            }
        }
        net.setGains(900, 800);
        net.setMaxStep(3);
        net.run(4);
    }

    @Sentence(in = "Promise 27", words = "Saves the whole state")
    static void p27SavesTheWholeState(Checks checks) {
        for (int slot = 0; slot < 2; slot++) {
            NetworkCoordinates net = Nets.changedEverywhere();
            Picture saved = new Picture(net, 10);
            net.save(slot);
            shows(checks, "save(" + slot + ") changes nothing", saved, net);
            changeAll(net);
            net.restore(slot);
            shows(checks, "restore(" + slot + ") after changes", saved, net);
            net.reset(2);
            net.restore(slot);
            shows(checks, "restore(" + slot + ") after reset", saved, net);
            checks.due("reset(3) of the restored", 10, net.reset(3));
        }
    }

    @Sentence(in = "Promise 27", words = "apart from the save slots")
    static void p27SavesNoSlots(Checks checks) {
        NetworkCoordinates net = new NetworkCoordinates();
        net.place(0, 1, 0, 0);
        net.save(0);
        net.place(0, 2, 0, 0);
        net.save(1);
        net.place(0, 3, 0, 0);
        net.save(0);
        // Slot 1 was filled while slot 0 held the first state; it must not bring that back.
        net.restore(1);
        checks.due("x(0) of slot 1", 2, net.x(0));
        net.restore(0);
        checks.due("x(0) of slot 0", 3, net.x(0));
        // Slot 0 was first filled while slot 1 held nothing; it must not empty that.
        checks.due("restore(1)", 1, net.restore(1));
        checks.due("x(0) of slot 1 again", 2, net.x(0));
    }

    @Sentence(in = "Promise 27", words = "in a slot")
    static void p27SavesInTheSlotAlone(Checks checks) {
        for (int slot = 0; slot < 2; slot++) {
            NetworkCoordinates net = new NetworkCoordinates();
            net.save(slot);
            checks.due("restore(" + (1 - slot) + ")", Due.NOT_SAVED, net.restore(1 - slot));
            net.place(0, 5, 0, 0);
            net.save(1 - slot);
            net.restore(slot);
            checks.due("x(0) of the one", 0, net.x(0));
            net.restore(1 - slot);
            checks.due("x(0) of the other", 5, net.x(0));
        }
    }

    @Sentence(in = "Promise 27", words = "and overwrites what was saved there")
    static void p27Overwrites(Checks checks) {
        for (int slot = 0; slot < 2; slot++) {
            NetworkCoordinates net = Nets.changedEverywhere();
            net.save(slot);
            net.reset(3);
            net.setRtt(0, 1, 5);
            net.place(2, 9, 8, 7);
            Picture later = new Picture(net, 3);
            net.save(slot);
            changeAll(net);
            net.restore(slot);
            shows(checks, "the later state in slot " + slot, later, net);
            net.reset(10);
            net.save(slot);
            net.restore(slot);
            Nets.initialDue(checks, net, 10);
        }
    }

    @Sentence(in = "Promise 27", words = "`slot`: 0 or 1")
    static void p27Slot0Or1(Checks checks) {
        NetworkCoordinates net = new NetworkCoordinates();
        checks.due("save(0)", 1, net.save(0));
        checks.due("save(1)", 1, net.save(1));
        checks.due("restore(0)", 1, net.restore(0));
        checks.due("restore(1)", 1, net.restore(1));
        checks.due("save(-1)", Due.OUT_OF_RANGE, net.save(-1));
        checks.due("save(2)", Due.OUT_OF_RANGE, net.save(2));
    }

    @Sentence(in = "Promise 27", words = "Returns 1")
    static void p27Returns1(Checks checks) {
        NetworkCoordinates net = Nets.changedEverywhere();
        for (int i = 0; i < 100; i++) {
            checks.due("save(1), time " + i, 1, net.save(1));
            checks.due("save(0), time " + i, 1, net.save(0));
            net.run(1);
        }
    }

    @Sentence(in = "Promise 27", words = "OUT_OF_RANGE if slot is out of range")
    static void p27OutOfRange(Checks checks) {
        NetworkCoordinates net = new NetworkCoordinates();
        for (int slot : Edges.beyond(0, 1)) {
            checks.due("save(" + slot + ")", Due.OUT_OF_RANGE, net.save(slot));
        }
        checks.due("restore(0) of nothing saved", Due.NOT_SAVED, net.restore(0));
        checks.due("restore(1) of nothing saved", Due.NOT_SAVED, net.restore(1));
    }

    @Sentence(in = "Promise 28", words = "Restores the state that was saved last in a slot")
    static void p28RestoresTheLast(Checks checks) {
        NetworkCoordinates net = Nets.changedEverywhere();
        net.save(0);
        net.run(3);
        net.setRtt(4, 7, 0);
        Picture last = new Picture(net, 10);
        net.save(0);
        changeAll(net);
        Picture other = new Picture(net, 10);
        net.save(1);
        net.reset(6);
        net.restore(0);
        shows(checks, "the last state of slot 0", last, net);
        net.restore(1);
        shows(checks, "the state of slot 1", other, net);
        // What follows is as it would have been after the save.
        net.restore(0);
        NetworkCoordinates again = Nets.changedEverywhere();
        again.run(3);
        again.setRtt(4, 7, 0);
        checks.due("run(9)", again.run(9), net.run(9));
        shows(checks, "run(9) after restore", new Picture(again, 10), net);
    }

    @Sentence(in = "Promise 28", words = "The slot keeps it")
    static void p28TheSlotKeepsIt(Checks checks) {
        NetworkCoordinates net = Nets.changedEverywhere();
        Picture saved = new Picture(net, 10);
        net.save(0);
        net.save(1);
        for (int i = 0; i < 4; i++) {
            int slot = i % 2;
            checks.due("restore(" + slot + "), time " + i, 1, net.restore(slot));
            shows(checks, "restored, time " + i, saved, net);
            changeAll(net);
        }
    }

    @Sentence(in = "Promise 28", words = "`slot`: 0 or 1")
    static void p28Slot0Or1(Checks checks) {
        NetworkCoordinates net = new NetworkCoordinates();
        net.place(0, 5, 0, 0);
        net.save(0);
        net.place(0, 6, 0, 0);
        net.save(1);
        checks.due("restore(0)", 1, net.restore(0));
        checks.due("x(0) of slot 0", 5, net.x(0));
        checks.due("restore(1)", 1, net.restore(1));
        checks.due("x(0) of slot 1", 6, net.x(0));
        checks.due("restore(-1)", Due.OUT_OF_RANGE, net.restore(-1));
        checks.due("restore(2)", Due.OUT_OF_RANGE, net.restore(2));
    }

    @Sentence(in = "Promise 28", words = "Returns 1")
    static void p28Returns1(Checks checks) {
        NetworkCoordinates net = Nets.changedEverywhere();
        net.save(0);
        net.save(1);
        for (int i = 0; i < 100; i++) {
            checks.due("restore(0), time " + i, 1, net.restore(0));
            checks.due("restore(1), time " + i, 1, net.restore(1));
        }
        checks.due("restore(1) and reset", 10, net.reset(2));
        checks.due("restore(1) after reset", 1, net.restore(1));
    }

    @Sentence(in = "Promise 28", words = "OUT_OF_RANGE if slot is out of range (checked first)")
    static void p28OutOfRange(Checks checks) {
        NetworkCoordinates net = new NetworkCoordinates();
        for (int slot : Edges.beyond(0, 1)) {
            checks.due("restore(" + slot + ") of none", Due.OUT_OF_RANGE, net.restore(slot));
        }
        net.place(3, 1, 2, 3);
        net.save(0);
        net.save(1);
        net.place(3, 4, 5, 6);
        for (int slot : Edges.beyond(0, 1)) {
            checks.due("restore(" + slot + ") of two", Due.OUT_OF_RANGE, net.restore(slot));
        }
        checks.due("x(3)", 4, net.x(3));
    }

    @Sentence(in = "Promise 28", words = "NOT_SAVED if nothing was saved there")
    static void p28NotSaved(Checks checks) {
        for (int slot = 0; slot < 2; slot++) {
            NetworkCoordinates net = Nets.changedEverywhere();
            Picture before = new Picture(net, 10);
            checks.due("restore(" + slot + ") of none", Due.NOT_SAVED, net.restore(slot));
            net.save(1 - slot);
            net.save(2);
            net.restore(1 - slot);
            checks.due("restore(" + slot + ") of the other", Due.NOT_SAVED, net.restore(slot));
            shows(checks, "restore(" + slot + ") changes nothing", before, net);
            net.reset(10);
            checks.due("restore(" + slot + ") after reset", Due.NOT_SAVED, net.restore(slot));
            net.save(slot);
            checks.due("restore(" + slot + ") of a saved one", 1, net.restore(slot));
        }
    }
}
