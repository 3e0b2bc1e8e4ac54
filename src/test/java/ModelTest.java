/**
 * Long mixed runs of calls, 512 on each object, answered alike by the class and by Model. The
 * runs are the same each time: their numbers come from a sequence that starts with the run's.
 */
public final class ModelTest {
    private static final int RUNS = 1500;
    private static final int CALLS_OF_AN_OBJECT = 512;
    private static final int METHODS = 27;
    private static final int[] WILD = {Integer.MIN_VALUE, -100001, -1, 0, 1, 2, 11, 20001, 100001,
        Integer.MAX_VALUE};
    private static final Checks CHECKS = new Checks();

    private final int run;
    private final NetworkCoordinates net = new NetworkCoordinates();
    private final Model model = new Model();
    private final boolean small;
    private long state;

    private ModelTest(int run) {
        this.run = run;
        this.state = run;
        this.small = run % 2 == 0;
    }

    public static void main(String[] args) {
        for (int run = 0; run < RUNS && CHECKS.wrong() < 20; run++) {
            new ModelTest(run).play();
        }
        CHECKS.end();
    }

    private void play() {
        for (int i = 0; i < CALLS_OF_AN_OBJECT; i++) {
            // The calls that build something up come more often than the others.
            int which = next(100) < 45 ? next(8) : next(METHODS);
            call(which);
        }
    }

    private int next(int bound) {
        state = state * 6364136223846793005L + 1442695040888963407L;
        return (int) Math.floorMod(state >>> 33, (long) bound);
    }

    private int between(int least, int greatest) {
        int kind = next(40);
        if (kind == 0) {
            return WILD[next(WILD.length)];
        }
        if (kind == 1) {
            return least - 1;
        }
        if (kind == 2) {
            return greatest + 1;
        }
        if (kind == 3) {
            return least;
        }
        if (kind == 4) {
            return greatest;
        }
        int range = greatest - least + 1;
        return least + next(small ? Math.min(range, 60) : range);
    }

    private int position() {
        return small ? next(201) - 100 : between(-100000, 100000);
    }

    private int node() {
        return next(30) == 0 ? between(0, model.nodeCount() - 1) : next(model.nodeCount());
    }

    private int slot() {
        return next(20) == 0 ? between(0, 1) : next(2);
    }

    private void due(String call, int want, int got) {
        CHECKS.due("run " + run + ": " + call, want, got);
    }

    private void call(int which) {
        if (which < 8) {
            callThatBuilds(which);
        } else if (which < 13) {
            callThatReadsANode(which);
        } else if (which < 18) {
            callOfAPair(which);
        } else {
            callOfAll(which);
        }
    }

    private void callThatBuilds(int which) {
        int a = node();
        int b = node();
        switch (which) {
            case 0, 1, 2 -> {
                int rtt = between(0, 20000);
                due("setRtt(" + a + ", " + b + ", " + rtt + ")", model.setRtt(a, b, rtt),
                        net.setRtt(a, b, rtt));
            }
            case 3 -> {
                int x = position();
                int y = position();
                int height = next(3) == 0 ? 0 : between(0, 100000);
                due("place(" + a + ", " + x + ", " + y + ", " + height + ")",
                        model.place(a, x, y, height), net.place(a, x, y, height));
            }
            case 4, 5 -> due("measure(" + a + ", " + b + ")", model.measure(a, b), net.measure(a, b));
            case 6 -> {
                int rounds = next(4) == 0 ? between(1, 100) : 1 + next(8);
                due("run(" + rounds + ")", model.run(rounds), net.run(rounds));
            }
            default -> due("move(" + a + ", " + b + ")", model.move(a, b), net.move(a, b));
        }
    }

    private void callThatReadsANode(int which) {
        int a = node();
        switch (which) {
            case 8 -> due("x(" + a + ")", model.x(a), net.x(a));
            case 9 -> due("y(" + a + ")", model.y(a), net.y(a));
            case 10 -> due("height(" + a + ")", model.height(a), net.height(a));
            case 11 -> due("error(" + a + ")", model.error(a), net.error(a));
            default -> {
                int rank = between(0, model.nodeCount() - 2);
                due("nearest(" + a + ", " + rank + ")", model.nearest(a, rank), net.nearest(a, rank));
            }
        }
    }

    private void callOfAPair(int which) {
        int a = node();
        int b = node();
        String pair = "(" + a + ", " + b + ")";
        switch (which) {
            case 13 -> due("rtt" + pair, model.rtt(a, b), net.rtt(a, b));
            case 14 -> due("predict" + pair, model.predict(a, b), net.predict(a, b));
            case 15 -> due("relativeError" + pair, model.relativeError(a, b), net.relativeError(a, b));
            case 16 -> due("relay" + pair, model.relay(a, b), net.relay(a, b));
            default -> {
                int lie = between(0, 20000);
                due("setLie(" + a + ", " + lie + ")", model.setLie(a, lie), net.setLie(a, lie));
            }
        }
    }

    private void callOfAll(int which) {
        switch (which) {
            case 18 -> due("meanError()", model.meanError(), net.meanError());
            case 19 -> due("worstPair()", model.worstPair(), net.worstPair());
            case 20 -> due("triangles()", model.triangles(), net.triangles());
            case 21 -> due("violations()", model.violations(), net.violations());
            case 22 -> due("worstExcess()", model.worstExcess(), net.worstExcess());
            case 23 -> due("suspect()", model.suspect(), net.suspect());
            case 24 -> due("roundCounter()", model.roundCounter(), net.roundCounter());
            case 25 -> {
                int slot = slot();
                if (next(2) == 0) {
                    due("save(" + slot + ")", model.save(slot), net.save(slot));
                } else {
                    due("restore(" + slot + ")", model.restore(slot), net.restore(slot));
                }
            }
            default -> setting();
        }
    }

    private void setting() {
        int kind = next(6);
        if (kind == 0) {
            int n = between(2, 10);
            due("reset(" + n + ")", model.reset(n), net.reset(n));
        } else if (kind < 4) {
            int errorGain = between(1, 1000);
            int moveGain = between(1, 1000);
            due("setGains(" + errorGain + ", " + moveGain + ")",
                    model.setGains(errorGain, moveGain), net.setGains(errorGain, moveGain));
        } else {
            int step = between(1, 20000);
            due("setMaxStep(" + step + ")", model.setMaxStep(step), net.setMaxStep(step));
        }
    }
}
