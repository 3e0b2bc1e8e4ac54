/** The document's numbers once more, so that a wrong constant of the class can't hide itself. */
final class Due {
    static final int NO_SUCH_NODE = -1000001;
    static final int OUT_OF_RANGE = -1000002;
    static final int SAME_NODE = -1000003;
    static final int UNKNOWN_RTT = -1000004;
    static final int NONE = -1000005;
    static final int NOT_SAVED = -1000006;

    private Due() {
    }
}
