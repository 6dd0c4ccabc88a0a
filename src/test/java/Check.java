/** Compares answers with those that are due, counts what is wrong, and ends a test. */
final class Check {
    private static final int SHOWN_AT_MOST = 40;
    private static int wrong = 0;

    private Check() {
    }

    static void due(String call, long got, long want) {
        if (got != want) {
            tell(call + " answered " + got + ", due is " + want);
        }
    }

    static void due(String call, String got, String want) {
        if (!got.equals(want)) {
            tell(call + " answered \"" + got + "\", due is \"" + want + "\"");
        }
    }

    static void tell(String fault) {
        wrong++;
        if (wrong <= SHOWN_AT_MOST) {
            System.out.println(fault);
        }
    }

    static int wrongSoFar() {
        return wrong;
    }

    static void end(String test) {
        System.out.println(test + ": " + (wrong == 0 ? "all answers are as due" : wrong + " are wrong"));
        if (wrong != 0) {
            System.exit(1);
        }
    }
}
