/** All that can be asked of an object's present state; asking leaves the object as it was. */
final class Picture {
    private final int n;
    private final int[] answers;

    Picture(NetworkCoordinates net, int n) {
        this.n = n;
        this.answers = ask(net, n);
    }

    /** Empty if there is none. */
    String difference(NetworkCoordinates net) {
        int[] now = ask(net, n);
        for (int i = 0; i < answers.length; i++) {
            if (now[i] != answers[i]) {
                return "answer " + i + " was " + answers[i] + ", is " + now[i];
            }
        }
        return "";
    }

    private static int[] ask(NetworkCoordinates net, int n) {
        int[] found = new int[6 + 5 * n + n * n];
        int at = 0;
        int gains = net.setGains(1, 1);
        net.setGains(gains / 10000, gains % 10000);
        found[at++] = gains;
        found[at] = net.setMaxStep(1);
        net.setMaxStep(found[at++]);
        found[at++] = net.roundCounter();
        // Which nodes there are, without a reset.
        found[at++] = net.x(n - 1) == NetworkCoordinates.NO_SUCH_NODE ? 0 : 1;
        found[at++] = net.x(n);
        found[at++] = net.meanError();
        for (int node = 0; node < n; node++) {
            found[at++] = net.x(node);
            found[at++] = net.y(node);
            found[at++] = net.height(node);
            found[at++] = net.error(node);
            found[at] = net.setLie(node, 0);
            net.setLie(node, found[at++]);
        }
        for (int a = 0; a < n; a++) {
            for (int b = 0; b < n; b++) {
                found[at++] = net.rtt(a, b);
            }
        }
        return found;
    }
}
