/** Counts the answers of one test and prints those that are not as due. */
final class Checks {
    private static final int MOST_PRINTED = 40;

    private final String test;
    private int asked;
    private int wrong;

    Checks(String test) {
        this.test = test;
    }

    void same(String what, long got, long want) {
        asked++;
        if (got != want) {
            tell(what + " is " + got + ", due is " + want);
        }
    }

    void yes(String what, boolean got) {
        same(what, got ? 1 : 0, 1);
    }

    void no(String what, boolean got) {
        same(what, got ? 1 : 0, 0);
    }

    void tell(String what) {
        wrong++;
        if (wrong <= MOST_PRINTED) {
            System.out.println(test + ": " + what);
        }
    }

    /** A fraction: its upper and its lower part. */
    void ratio(String what, long up, long low, long wantUp, long wantLow) {
        same(what + ", upper part", up, wantUp);
        same(what + ", lower part", low, wantLow);
    }

    void finish() {
        System.out.println(test + ": " + asked + " answers, " + wrong + " wrong");
        if (wrong != 0) {
            System.exit(1);
        }
    }
}
