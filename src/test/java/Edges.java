/** Arguments just beyond what the document allows, and far beyond. */
final class Edges {
    private Edges() {
    }

    static int[] beyond(int least, int greatest) {
        return new int[] {least - 1, greatest + 1, Integer.MIN_VALUE, Integer.MAX_VALUE};
    }

    static int[] notNodes(int n) {
        return beyond(0, n - 1);
    }
}
