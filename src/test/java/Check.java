/** Compares answers with those that are due, counts what is wrong, and ends a test. */
final class Check {
    private static final int PROMISES = 39;
    private static final int SHOWN_AT_MOST = 40;
    private static final int[] CASES = new int[PROMISES + 1];
    private static String place = "";
    private static int wrong = 0;

    private Check() {
    }

    /** A case with a name of its own; promise 0 stands for the description before the promises. */
    static void boundary(int promise, String name, Runnable body) {
        CASES[promise]++;
        place = (promise == 0 ? "description" : "promise " + promise) + ", " + name + ": ";
        body.run();
        place = "";
    }

    static void due(String call, long got, long want) {
        if (got != want) {
            tell(call + " answered " + got + ", due is " + want);
        }
    }

    static void due(String call, String got, String want) {
        if (!got.equals(want)) {
            tell(call + " answered \"" + got + "\", due is \"" + want + "\"");
        }
    }

    static void tell(String fault) {
        wrong++;
        if (wrong <= SHOWN_AT_MOST) {
            System.out.println(place + fault);
        }
    }

    static int wrongSoFar() {
        return wrong;
    }

    /** Tells if one of these promises has been left without a case. */
    static void everyPromiseHasACase(int first, int last) {
        for (int promise = first; promise <= last; promise++) {
            if (CASES[promise] == 0) {
                tell("promise " + promise + " has no case");
            }
        }
    }

    static void end(String test) {
        System.out.println(test + ": " + (wrong == 0 ? "all answers are as due" : wrong + " are wrong"));
        if (wrong != 0) {
            System.exit(1);
        }
    }
}
