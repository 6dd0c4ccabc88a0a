import java.util.Arrays;

/**
 * The ranges of all arguments of all promises, for each number of variables: the last value that is allowed and
 * the first that is not, on both sides; two wrong arguments at once; and after a refused call everything as it was.
 * Each is tried in three states, so that INVALID_ARGUMENT also comes before every other error that applies.
 */
public final class RangesTest {
    private static final String[] NAMES = {
        "reset", "variables", "toggle", "copy", "sum", "product", "times", "restrict", "substitute", "derivative",
        "flip", "exchange", "undo", "has", "terms", "degree", "occurring", "size", "sharedSize", "termAt", "value",
        "isSame", "reduce", "echelon", "zeros", "zeroAt", "combine", "eliminate", "fibres", "isMember",
        "isSameIdeal", "fixedVariables", "type", "clearText", "fault", "read", "textLength", "textAt",
    };
    private static final int STATES = 3;
    private static final int NO_UPPER_END = Integer.MAX_VALUE;

    private RangesTest() {
    }

    public static void main(String[] args) {
        for (int promise = 2; promise <= 39; promise++) {
            for (int place = 0; place < argumentsOf(promise); place++) {
                for (int n = 1; n <= 6; n++) {
                    rangeOf(promise, place, n);
                }
            }
            if (argumentsOf(promise) > 1) {
                twoAtOnce(promise);
            }
        }
        Check.end("RangesTest");
    }

    private static int argumentsOf(int promise) {
        return Calls.kindsOf(promise).indexOf('-') < 0 ? 4 : Calls.kindsOf(promise).indexOf('-');
    }

    private static int lowest(char kind) {
        return kind == 'c' ? 32 : kind == 'n' ? 1 : 0;
    }

    private static int highest(char kind, int n) {
        switch (kind) {
            case 'r': return 7;
            case 'm': return (1 << n) - 1;
            case 'v': return n - 1;
            case 'b': return 1;
            case 'o': return 2;
            case 's': return 255;
            case 'c': return 126;
            case 'n': return 6;
            default: return NO_UPPER_END;
        }
    }

    /** Values below and above a range, the nearest ones first. */
    private static int[] outside(char kind, int n) {
        int low = lowest(kind);
        int high = highest(kind, n);
        if (high == NO_UPPER_END) {
            return new int[] {low - 1, Integer.MIN_VALUE};
        }
        // The last ones would be in the range if bits above it were lost.
        return new int[] {low - 1, high + 1, Integer.MIN_VALUE, Integer.MAX_VALUE, low + 256, low + 65536, low - 256};
    }

    private static void rangeOf(int promise, int place, int n) {
        char kind = Calls.kindsOf(promise).charAt(place);
        String name = NAMES[promise - 2] + ", argument " + (place + 1) + ", with " + n + " variables";
        Check.boundary(promise, name + ", the ends of the range", () -> {
            for (int state = 0; state < STATES; state++) {
                accepted(promise, n, state, changed(lowestArguments(promise), place, lowest(kind)));
                accepted(promise, n, state, changed(lowestArguments(promise), place, highest(kind, n)));
                accepted(promise, n, state, changed(highestArguments(promise, n), place, lowest(kind)));
            }
        });
        Check.boundary(promise, name + ", outside of the range", () -> {
            for (int wrong : outside(kind, n)) {
                for (int state = 0; state < STATES; state++) {
                    refused(promise, n, state, changed(lowestArguments(promise), place, wrong));
                    refused(promise, n, state, changed(highestArguments(promise, n), place, wrong));
                }
            }
        });
    }

    private static void twoAtOnce(int promise) {
        Check.boundary(promise, NAMES[promise - 2] + ", all arguments out of range", () -> {
            for (int n = 1; n <= 6; n++) {
                for (int state = 0; state < STATES; state++) {
                    int[] below = new int[4];
                    int[] above = new int[4];
                    for (int place = 0; place < argumentsOf(promise); place++) {
                        int[] wrongs = outside(Calls.kindsOf(promise).charAt(place), n);
                        below[place] = wrongs[0];
                        above[place] = wrongs[1];
                    }
                    refused(promise, n, state, below);
                    refused(promise, n, state, above);
                }
            }
        });
    }

    private static int[] lowestArguments(int promise) {
        int[] all = new int[4];
        for (int place = 0; place < argumentsOf(promise); place++) {
            all[place] = lowest(Calls.kindsOf(promise).charAt(place));
        }
        return all;
    }

    private static int[] highestArguments(int promise, int n) {
        int[] all = new int[4];
        for (int place = 0; place < argumentsOf(promise); place++) {
            all[place] = highest(Calls.kindsOf(promise).charAt(place), n);
        }
        return all;
    }

    private static int[] changed(int[] arguments, int place, int value) {
        int[] result = arguments.clone();
        result[place] = value;
        return result;
    }

    private static int call(Calls on, int promise, int[] x) {
        return on.answer(promise, x[0], x[1], x[2], x[3]);
    }

    private static void accepted(int promise, int n, int state, int[] arguments) {
        Calls ring = prepared(Calls.of(new BooleanRing()), n, state);
        Calls plain = prepared(Calls.of(new PlainRing()), n, state);
        String name = "state " + state + ", " + Arrays.toString(arguments);
        int got = call(ring, promise, arguments);
        Check.due(name, got, call(plain, promise, arguments));
        if (got == Rings.INVALID) {
            Check.tell(name + " is refused");
        }
        Check.due(name + ", all that is seen then", everythingOf(ring), everythingOf(plain));
    }

    private static void refused(int promise, int n, int state, int[] arguments) {
        Calls ring = prepared(Calls.of(new BooleanRing()), n, state);
        Calls untouched = prepared(Calls.of(new BooleanRing()), n, state);
        String name = "state " + state + ", " + Arrays.toString(arguments);
        Check.due(name, call(ring, promise, arguments), Rings.INVALID);
        Check.due(name + ", everything is as it was", everythingOf(ring), everythingOf(untouched));
    }

    /** 0: as new; 1: polynomials, some states, a text; 2: a full history, a full text with a fault, no common zero. */
    private static Calls prepared(Calls on, int n, int state) {
        int all = (1 << n) - 1;
        on.answer(2, n, 0, 0, 0);
        if (state == 1) {
            on.answer(4, 0, all, 0, 0);
            on.answer(4, 0, 0, 0, 0);
            on.answer(4, 1, 1, 0, 0);
            on.answer(4, 7, all >> 1, 0, 0);
            typeAll(on, "a+1");
        }
        if (state == 2) {
            for (int r = 0; r < 8; r++) {
                on.answer(4, r, 0, 0, 0);
            }
            on.answer(4, 3, all, 0, 0);
            typeAll(on, "1+a+".repeat(15));
        }
        return on;
    }

    private static void typeAll(Calls on, String text) {
        for (int i = 0; i < text.length(); i++) {
            on.answer(34, text.charAt(i), 0, 0, 0);
        }
    }

    /** What can be seen of an object: registers, history and text; it is used up by this. */
    private static String everythingOf(Calls on) {
        StringBuilder all = new StringBuilder();
        all.append(on.answer(3, 0, 0, 0, 0)).append(registersOf(on));
        while (on.answer(14, 0, 0, 0, 0) >= 0) {
            all.append(" before: ").append(registersOf(on));
        }
        all.append(" fault: ").append(on.answer(36, 0, 0, 0, 0));
        on.answer(2, 6, 0, 0, 0);
        all.append(" or ").append(on.answer(36, 0, 0, 0, 0));
        all.append(" read: ").append(on.answer(37, 0, 0, 0, 0)).append(registersOf(on));
        return all.append(" length: ").append(on.answer(35, 0, 0, 0, 0)).toString();
    }

    private static String registersOf(Calls on) {
        StringBuilder all = new StringBuilder();
        for (int r = 0; r < 8; r++) {
            all.append(" |");
            int term = on.answer(21, r, 0, 0, 0);
            for (int i = 1; term >= 0; i++) {
                all.append(' ').append(term);
                term = i <= 8 ? on.answer(21, r, 0, i, 0) : Rings.NONE;
            }
        }
        return all.toString();
    }
}
