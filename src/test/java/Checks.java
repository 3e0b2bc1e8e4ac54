/** Counts the answers of one test that are not the ones due. */
final class Checks {
    private int made = 0;
    private int wrong = 0;

    void due(String call, long want, long got) {
        made++;
        if (got != want) {
            wrong++;
            System.out.println(call + " answered " + got + ", due is " + want);
        }
    }

    void holds(String what, boolean holds) {
        due(what + " (1: holds)", 1, holds ? 1 : 0);
    }

    int made() {
        return made;
    }

    int wrong() {
        return wrong;
    }

    void end() {
        System.out.println(made + " checks, " + wrong + " wrong");
        if (wrong != 0 || made == 0) {
            System.exit(1);
        }
    }
}
