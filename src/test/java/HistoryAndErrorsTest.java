/** The boundary cases of the description that concern many promises: the history, the errors, the 512 calls. */
public final class HistoryAndErrorsTest {
    /** The changes, with arguments with which all but the first two make nothing different after prepared(). */
    private static final int[][] CHANGES = {
        {4, 0, 3, 0, 0}, {12, 0, 3, 0, 0}, {5, 6, 7, 0, 0}, {6, 6, 7, 7, 0}, {7, 6, 0, 7, 0}, {8, 6, 15, 7, 0},
        {9, 0, 3, 1, 0}, {10, 0, 3, 7, 0}, {11, 0, 3, 7, 0}, {13, 0, 2, 2, 0}, {24, 0, 0, 0, 0}, {25, 255, 0, 0, 0},
        {28, 0, 7, 0, 0}, {29, 0, 3, 7, 0}, {37, 0, 0, 0, 0},
    };
    /** All others that leave the registers, with arguments that they accept. */
    private static final int[][] QUESTIONS = {
        {3, 0, 0, 0, 0}, {15, 0, 3, 0, 0}, {16, 0, 0, 0, 0}, {17, 0, 0, 0, 0}, {18, 0, 0, 0, 0}, {19, 0, 0, 0, 0},
        {20, 0, 0, 0, 0}, {21, 0, 0, 0, 0}, {22, 0, 0, 0, 0}, {23, 0, 1, 0, 0}, {26, 1, 0, 0, 0}, {27, 1, 0, 0, 0},
        {30, 1, 0, 1, 0}, {31, 0, 1, 0, 0}, {32, 1, 2, 0, 0}, {33, 1, 0, 0, 0}, {34, '+', 0, 0, 0}, {35, 0, 0, 0, 0},
        {36, 0, 0, 0, 0}, {38, 0, 0, 0, 0}, {39, 0, 0, 0, 0},
    };

    private HistoryAndErrorsTest() {
    }

    public static void main(String[] args) {
        changesAreRecorded();
        fullHistory();
        questionsAreNotRecorded();
        errorsAreNotRecorded();
        invalidComesFirst();
        setsAndRegisters();
        manyCalls();
        Check.end("HistoryAndErrorsTest");
    }

    private static int call(BooleanRing x, int[] call) {
        return Calls.of(x).answer(call[0], call[1], call[2], call[3], call[4]);
    }

    /** The register 0 holds a, the text is a, and the history has one state. */
    private static BooleanRing prepared() {
        return Rings.with(4, "a");
    }

    private static BooleanRing withFiveStates() {
        BooleanRing x = prepared();
        for (int m = 8; m < 12; m++) {
            x.toggle(1, m);
        }
        return x;
    }

    private static void changesAreRecorded() {
        for (int i = 0; i < CHANGES.length; i++) {
            int[] change = CHANGES[i];
            boolean different = i < 2;
            Check.boundary(change[0], "a change is recorded, also if nothing becomes different", () -> {
                BooleanRing x = prepared();
                if (call(x, change) < 0) {
                    Check.tell("is refused");
                }
                if (!different) {
                    Rings.hold("nothing is different", x, "a", "0", "0", "0", "0", "0", "0", "0");
                }
                Check.due("undo()", x.undo(), 1);
                Rings.hold("undo()", x, "a", "0", "0", "0", "0", "0", "0", "0");
                Check.due("undo()", x.undo(), 0);
                Rings.holds("undo()", x, 0, "0");
                Check.due("undo()", x.undo(), Rings.IMPOSSIBLE);
            });
        }
    }

    private static void fullHistory() {
        for (int[] change : CHANGES) {
            Check.boundary(change[0], "the sixth state has a place, the seventh drops the oldest", () -> {
                BooleanRing x = withFiveStates();
                call(x, change);
                Check.due("states after six changes", Rings.statesOf(x), 6);
                Rings.holds("the oldest one is there", x, 0, "0");
                x = withFiveStates();
                call(x, change);
                call(x, change);
                Check.due("states after seven changes", Rings.statesOf(x), 6);
                Rings.holds("the oldest one is dropped", x, 0, "a");
            });
        }
        Check.boundary(0, "states are dropped one by one, the oldest first", () -> {
            for (int changes = 1; changes <= 16; changes++) {
                BooleanRing x = new BooleanRing();
                for (int m = 0; m < changes; m++) {
                    x.toggle(0, m);
                }
                Check.due("states after " + changes, Rings.statesOf(x), Math.min(changes, 6));
                Check.due("terms(0) in the oldest one", x.terms(0), Math.max(0, changes - 6));
            }
        });
    }

    private static void questionsAreNotRecorded() {
        for (int[] question : QUESTIONS) {
            Check.boundary(question[0], "it changes no registers, and nothing is recorded", () -> {
                BooleanRing x = prepared();
                if (call(x, question) < 0 && question[0] != 36) {
                    Check.tell("is refused");
                }
                Rings.hold("the registers", x, "a", "0", "0", "0", "0", "0", "0", "0");
                Check.due("states", Rings.statesOf(x), 1);
            });
        }
        Check.boundary(2, "reset is not recorded: the history is empty", () -> {
            BooleanRing x = prepared();
            x.reset(4);
            Check.due("states", Rings.statesOf(x), 0);
        });
    }

    private static void errorsAreNotRecorded() {
        for (int[] change : CHANGES) {
            Check.boundary(change[0], "a refused change is not recorded, also in a full history", () -> {
                BooleanRing x = new BooleanRing();
                for (int m = 0; m < 6; m++) {
                    x.toggle(0, m);
                }
                int[] wrong = change.clone();
                wrong[1] = 256;
                Check.due("the call", call(x, wrong), Rings.INVALID);
                Check.due("states", Rings.statesOf(x), 6);
                Check.due("the oldest one is there", x.terms(0), 0);
            });
        }
        Check.boundary(14, "a refused undo leaves everything", () -> {
            BooleanRing x = prepared();
            x.undo();
            x.toggle(2, 5);
            x.undo();
            Check.due("undo()", x.undo(), Rings.IMPOSSIBLE);
            Check.due("variables()", x.variables(), 4);
            Check.due("sharedSize()", x.sharedSize(), 0);
            Check.due("clearText()", x.clearText(), 1);
        });
    }

    private static void invalidComesFirst() {
        Check.boundary(17, "INVALID_ARGUMENT rather than NOT_FOUND", () -> {
            Check.due("degree(8)", new BooleanRing().degree(8), Rings.INVALID);
        });
        Check.boundary(21, "INVALID_ARGUMENT rather than NOT_FOUND", () -> {
            BooleanRing x = new BooleanRing();
            Check.due("termAt(8, 0, 99)", x.termAt(8, 0, 99), Rings.INVALID);
            Check.due("termAt(0, 3, 99)", x.termAt(0, 3, 99), Rings.INVALID);
            Check.due("termAt(0, 0, 99)", x.termAt(0, 0, 99), Rings.NONE);
        });
        Check.boundary(27, "INVALID_ARGUMENT rather than NOT_FOUND", () -> {
            BooleanRing x = new BooleanRing();
            Check.due("zeroAt(256, 99)", x.zeroAt(256, 99), Rings.INVALID);
            Check.due("zeroAt(255, 99)", x.zeroAt(255, 99), Rings.NONE);
        });
        Check.boundary(33, "INVALID_ARGUMENT rather than NOT_FOUND", () -> {
            BooleanRing x = Rings.with(4, "1");
            Check.due("fixedVariables(257)", x.fixedVariables(257), Rings.INVALID);
            Check.due("fixedVariables(255)", x.fixedVariables(255), Rings.NONE);
        });
        Check.boundary(34, "INVALID_ARGUMENT rather than LIMIT_REACHED", () -> {
            BooleanRing x = new BooleanRing();
            Rings.write(x, "a".repeat(60));
            Check.due("type(127)", x.type(127), Rings.INVALID);
            Check.due("type(126)", x.type(126), Rings.LIMIT);
        });
        Check.boundary(37, "INVALID_ARGUMENT rather than NOT_POSSIBLE", () -> {
            Check.due("read(8)", new BooleanRing().read(8), Rings.INVALID);
            Check.due("read(7)", new BooleanRing().read(7), Rings.IMPOSSIBLE);
        });
        Check.boundary(39, "INVALID_ARGUMENT rather than NOT_FOUND", () -> {
            BooleanRing x = new BooleanRing();
            Check.due("textAt(8, 99)", x.textAt(8, 99), Rings.INVALID);
            Check.due("textAt(7, 99)", x.textAt(7, 99), Rings.NONE);
        });
    }

    private static void setsAndRegisters() {
        Check.boundary(0, "a set is a bit mask: each of the eight registers alone", () -> {
            for (int r = 0; r < 8; r++) {
                BooleanRing x = new BooleanRing();
                x.toggle(r, 0);
                for (int other = 0; other < 8; other++) {
                    Check.due("zeros", x.zeros(1 << other), other == r ? 0 : 16);
                    Check.due("zeros of all others", x.zeros(255 - (1 << other)), other == r ? 16 : 0);
                }
            }
        });
        Check.boundary(0, "the constants", () -> {
            Check.due("INVALID_ARGUMENT", BooleanRing.INVALID_ARGUMENT, -1);
            Check.due("NOT_POSSIBLE", BooleanRing.NOT_POSSIBLE, -2);
            Check.due("LIMIT_REACHED", BooleanRing.LIMIT_REACHED, -3);
            Check.due("NOT_FOUND", BooleanRing.NOT_FOUND, -4);
        });
    }

    private static void manyCalls() {
        Check.boundary(0, "an object answers 512 calls", () -> {
            BooleanRing x = new BooleanRing();
            x.reset(6);
            for (int call = 2; call <= 511; call++) {
                int expected = (call - 2) % 128 < 64 ? (call - 2) % 64 + 1 : 63 - (call - 2) % 64;
                Check.due("call " + call, x.toggle(5, (call - 2) % 64), expected);
            }
            Check.due("call 512", x.undo(), 5);
        });
    }
}
