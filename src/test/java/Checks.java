/** Counts and prints the answers that are not the ones that are due. */
final class Checks {
    private int wrong = 0;
    private int looked = 0;

    void due(String what, long got, long want) {
        looked++;
        if (got != want) {
            wrong++;
            System.out.println(what + " answered " + got + ", due is " + want);
        }
    }

    void holds(String what, boolean fact) {
        looked++;
        if (!fact) {
            wrong++;
            System.out.println("does not hold: " + what);
        }
    }

    int looked() {
        return looked;
    }

    boolean allRight() {
        return wrong == 0;
    }

    void end() {
        System.out.println(looked + " looked at, " + wrong + " wrong");
        if (wrong != 0) {
            System.exit(1);
        }
    }
}
