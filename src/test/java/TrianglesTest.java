/** Promises 22 to 25: triangles, the violated ones and their nodes. */
public final class TrianglesTest {
    private static final int NONE = -1000005;
    private static final Checks CHECKS = new Checks();

    public static void main(String[] args) {
        noTriangle();
        oneTriangle();
        whicheverSideIsTheGreatest();
        greatestExcess();
        worstOfSeveral();
        suspectOfSeveral();
        allOfTenNodes();
        CHECKS.end();
    }

    private static void due(String when, NetworkCoordinates net, int[] due) {
        CHECKS.due(when + ": triangles()", due[0], net.triangles());
        CHECKS.due(when + ": violations()", due[1], net.violations());
        CHECKS.due(when + ": worstExcess()", due[2], net.worstExcess());
        CHECKS.due(when + ": suspect()", due[3], net.suspect());
    }

    private static void noTriangle() {
        NetworkCoordinates net = new NetworkCoordinates();
        due("new", net, new int[] {0, 0, NONE, NONE});
        net.setRtt(0, 1, 1);
        net.setRtt(1, 2, 20000);
        due("two rtts", net, new int[] {0, 0, NONE, NONE});
        net.setRtt(3, 4, 20000);
        due("three rtts, but not of three nodes", net, new int[] {0, 0, NONE, NONE});
        net.reset(2);
        net.setRtt(0, 1, 1);
        due("two nodes", net, new int[] {0, 0, NONE, NONE});
    }

    private static void oneTriangle() {
        NetworkCoordinates net = new NetworkCoordinates();
        net.setRtt(4, 2, 100);
        net.setRtt(2, 3, 200);
        net.setRtt(3, 4, 300);
        due("as great as the sum", net, new int[] {1, 0, NONE, NONE});
        net.setRtt(3, 4, 301);
        due("greater than the sum by 1", net, new int[] {1, 1, 1, 2});
        net.setLie(2, 1000);
        net.place(3, 9, 9, 9);
        due("whatever the lies and places", net, new int[] {1, 1, 1, 2});
        net.setRtt(2, 4, 0);
        due("made unknown", net, new int[] {0, 0, NONE, NONE});
    }

    private static void whicheverSideIsTheGreatest() {
        int[][] sides = {{1, 2, 9}, {1, 9, 2}, {9, 1, 2}, {2, 1, 9}, {2, 9, 1}, {9, 2, 1}};
        for (int[] side : sides) {
            NetworkCoordinates net = new NetworkCoordinates();
            net.reset(3);
            net.setRtt(0, 1, side[0]);
            net.setRtt(0, 2, side[1]);
            net.setRtt(1, 2, side[2]);
            due("sides " + side[0] + ", " + side[1], net, new int[] {1, 1, 6, 0});
        }
    }

    private static void greatestExcess() {
        NetworkCoordinates net = new NetworkCoordinates();
        net.setRtt(0, 1, 1);
        net.setRtt(0, 2, 1);
        net.setRtt(1, 2, 20000);
        due("the greatest excess", net, new int[] {1, 1, 19998, 0});
        net.setRtt(0, 1, 20000);
        net.setRtt(0, 2, 20000);
        due("the longest sides", net, new int[] {1, 0, NONE, NONE});
    }

    private static void worstOfSeveral() {
        NetworkCoordinates net = new NetworkCoordinates();
        net.setRtt(0, 1, 10);
        net.setRtt(1, 2, 10);
        net.setRtt(0, 2, 25);
        net.setRtt(2, 3, 10);
        net.setRtt(1, 3, 28);
        // 0, 1, 2 with excess 5 and 1, 2, 3 with 8.
        due("two violated ones", net, new int[] {2, 2, 8, 1});
        net.setRtt(0, 3, 30);
        // 0, 1, 3 holds (30 < 38); 0, 2, 3 holds (30 < 35).
        due("two of four violated", net, new int[] {4, 2, 8, 1});
        net.setRtt(1, 3, 20);
        due("one of four violated", net, new int[] {4, 1, 5, 0});
    }

    private static void suspectOfSeveral() {
        NetworkCoordinates net = new NetworkCoordinates();
        net.setRtt(1, 2, 100);
        net.setRtt(2, 3, 100);
        net.setRtt(1, 3, 500);
        net.setRtt(2, 4, 100);
        net.setRtt(3, 4, 500);
        due("2 and 3 in two each", net, new int[] {2, 2, 300, 2});
        net.setRtt(1, 4, 2000);
        // Now 1, 2, 4 and 1, 3, 4 are violated too: every node but 0 is in three.
        due("1 to 4 in three each", net, new int[] {4, 4, 1800, 1});
        net.setRtt(1, 4, 0);
        net.setRtt(0, 3, 1);
        net.setRtt(0, 4, 1);
        // 0, 3, 4 makes three for 3.
        due("3 in three", net, new int[] {3, 3, 498, 3});
    }

    private static void allOfTenNodes() {
        NetworkCoordinates net = new NetworkCoordinates();
        net.reset(10);
        for (int a = 0; a < 10; a++) {
            for (int b = a + 1; b < 10; b++) {
                net.setRtt(a, b, b == 9 ? 20000 : 9999);
            }
        }
        due("no violated one of 120", net, new int[] {120, 0, NONE, NONE});
        net.setRtt(7, 9, 1);
        // 7, 9 and each of the eight others: 20000 against 10000.
        due("eight violated of 120", net, new int[] {120, 8, 10000, 7});
        net.setRtt(7, 9, 20000);
        for (int a = 0; a < 9; a++) {
            for (int b = a + 1; b < 9; b++) {
                net.setRtt(a, b, 1);
            }
        }
        net.setRtt(0, 1, 3);
        due("each with 0 and 1 but that with 9", net, new int[] {120, 7, 1, 0});
    }
}
