/** Counts the answers of a test that are not as due, and prints each. */
final class Due {
    private final String test;
    private int looked;
    private int wrong;

    Due(String test) {
        this.test = test;
    }

    void is(String call, long got, long want) {
        looked++;
        if (got != want) {
            wrong++;
            System.out.println(test + ": " + call + " answered " + got + ", due is " + want);
        }
    }

    void isDouble(String call, double got, double want) {
        looked++;
        if (Double.compare(got, want) != 0) {
            wrong++;
            System.out.println(test + ": " + call + " answered " + got + ", due is " + want);
        }
    }

    void holds(String what, boolean held) {
        looked++;
        if (!held) {
            wrong++;
            System.out.println(test + ": " + what + " does not hold");
        }
    }

    void close() {
        System.out.println(test + ": " + looked + " looked at, " + wrong + " wrong");
        if (wrong != 0 || looked == 0) {
            System.exit(1);
        }
    }
}
