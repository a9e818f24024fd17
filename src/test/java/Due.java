/** Counts the answers of a test that are not as due, and prints each. */
final class Due {
    private final String test;
    /** The sentence of the document that is looked at. */
    private String sentence = "";
    private int looked;
    private int wrong;

    Due(String test) {
        this.test = test;
    }

    /** Names the sentence that all answers stand for until the next one; promise 0 means the terms. */
    void sentence(int promise, String words) {
        sentence = (promise == 0 ? "terms" : "promise " + promise) + ", \"" + words + "\": ";
    }

    void is(String call, long got, long want) {
        looked++;
        if (got != want) {
            tell(call + " answered " + got + ", due is " + want);
        }
    }

    void isDouble(String call, double got, double want) {
        looked++;
        if (Double.compare(got, want) != 0) {
            tell(call + " answered " + got + ", due is " + want);
        }
    }

    void isText(String what, String got, String want) {
        looked++;
        if (!got.equals(want)) {
            tell(what + " is " + got + ", due is " + want);
        }
    }

    void holds(String what, boolean held) {
        looked++;
        if (!held) {
            tell(what + " does not hold");
        }
    }

    private void tell(String fault) {
        wrong++;
        System.out.println(test + ": " + sentence + fault);
    }

    void close() {
        System.out.println(test + ": " + looked + " looked at, " + wrong + " wrong");
        if (wrong != 0 || looked == 0) {
            System.exit(1);
        }
    }
}
