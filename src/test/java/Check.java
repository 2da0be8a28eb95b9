/** Counts what was looked at and prints each answer that is not the one that is due. */
final class Check {
    private final String name;
    private int looked;
    private int wrong;

    Check(String name) {
        this.name = name;
    }

    void due(String what, long got, long want) {
        looked++;
        if (got != want) {
            wrong++;
            System.out.println(name + ": " + what + " answered " + got + ", due is " + want);
        }
    }

    void holds(String what, boolean does) {
        looked++;
        if (!does) {
            wrong++;
            System.out.println(name + ": " + what + " does not hold");
        }
    }

    int looked() {
        return looked;
    }

    boolean hasFailed() {
        return wrong > 0;
    }

    /** Ends the test: with exit code 1, if something was wrong. */
    void finish() {
        System.out.println(name + ": " + looked + " answers looked at, " + wrong + " wrong");
        if (wrong > 0 || looked == 0) {
            System.exit(1);
        }
    }
}
