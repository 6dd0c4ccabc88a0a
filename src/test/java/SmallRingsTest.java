import java.util.Arrays;

/**
 * With few variables everything is tried: all polynomials in three registers of one or two variables, or one
 * register of three, with all arguments that concern these registers; and all short texts.
 */
public final class SmallRingsTest {
    /** Before this many calls an object is left, so that none is used for more than 512. */
    private static final int CALLS = 470;
    private static final int REGISTERS = 3;
    private static final int FIRST_CALL = 4;
    private static final int LAST_CALL = 39;
    private static final int UNDO = 14;
    private static final int HAS = 15;
    private static final int TYPE = 34;
    private static final int CLEAR = 35;
    private static final int FAULT = 36;
    private static final int READ = 37;

    private final int variables;
    private final long[] held;
    private Calls ring;
    private Calls plain;
    private int calls;

    private SmallRingsTest(int variables, long... held) {
        this.variables = variables;
        this.held = held;
        startAnew();
    }

    public static void main(String[] args) {
        threeRegistersOfOneVariable();
        threeRegistersOfTwoVariables();
        oneRegisterOfThreeVariables();
        shortTexts(1, "01+ab ", 5);
        shortTexts(2, "01+abc", 5);
        shortTexts(3, "1+abcd", 5);
        Check.end("SmallRingsTest");
    }

    private static void threeRegistersOfOneVariable() {
        for (int all = 0; all < 4 * 4 * 4; all++) {
            new SmallRingsTest(1, all & 3, all >> 2 & 3, all >> 4).callEverything();
        }
    }

    private static void threeRegistersOfTwoVariables() {
        for (int all = 0; all < 16 * 16 * 16; all++) {
            new SmallRingsTest(2, all & 15, all >> 4 & 15, all >> 8).callEverything();
        }
    }

    private static void oneRegisterOfThreeVariables() {
        for (int p = 0; p < 256; p++) {
            new SmallRingsTest(3, p).callEverything();
        }
    }

    // ---- calls on both

    private void startAnew() {
        ring = Calls.of(new BooleanRing());
        plain = Calls.of(new PlainRing());
        calls = 0;
        answers(2, variables, 0, 0, 0);
        for (int r = 0; r < held.length; r++) {
            for (int m = 0; m < 1 << variables; m++) {
                if ((held[r] >>> m & 1) == 1) {
                    answers(4, r, m, 0, 0);
                }
            }
        }
    }

    private int answers(int promise, int a, int b, int c, int d) {
        calls++;
        int got = ring.answer(promise, a, b, c, d);
        int want = plain.answer(promise, a, b, c, d);
        if (got != want) {
            String call = "promise " + promise + " with " + Arrays.toString(new int[] {a, b, c, d});
            Check.due(variables + " variables, " + Arrays.toString(held) + ", " + call, got, want);
        }
        return want;
    }

    /** A call whose result is looked at and undone. */
    private void changes(int promise, int a, int b, int c, int d) {
        if (calls > CALLS) {
            startAnew();
        }
        if (answers(promise, a, b, c, d) >= 0) {
            compareRegisters();
            answers(UNDO, 0, 0, 0, 0);
        }
    }

    private void compareRegisters() {
        for (int r = 0; r <= REGISTERS; r++) {
            for (int m = 0; m < 1 << variables; m++) {
                answers(HAS, r, m, 0, 0);
            }
        }
    }

    // ---- all arguments

    private void callEverything() {
        for (int promise = FIRST_CALL; promise <= LAST_CALL; promise++) {
            if (promise != UNDO && (promise < TYPE || promise > READ)) {
                callWithAll(promise, new int[4], 0);
            }
        }
    }

    private void callWithAll(int promise, int[] x, int place) {
        if (place == x.length) {
            if (isChange(promise)) {
                changes(promise, x[0], x[1], x[2], x[3]);
            } else {
                if (calls > CALLS) {
                    startAnew();
                }
                answers(promise, x[0], x[1], x[2], x[3]);
            }
            return;
        }
        int values = valuesOf(Calls.kindsOf(promise).charAt(place));
        for (x[place] = 0; x[place] < values; x[place]++) {
            callWithAll(promise, x, place + 1);
        }
    }

    private static boolean isChange(int promise) {
        return promise < UNDO || promise == 24 || promise == 25 || promise == 28 || promise == 29;
    }

    /** From 0 on as many as an argument of this kind can have, and where it is cheap one that is too great. */
    private int valuesOf(char kind) {
        switch (kind) {
            case 'r': return Math.min(held.length + 1, REGISTERS);
            case 'm': return (1 << variables) + 1;
            case 'v': return variables + 1;
            case 'b': return 3;
            case 'o': return 3;
            case 's': return 1 << held.length;
            case 'i': return 3 << variables;
            default: return 1;
        }
    }

    // ---- texts

    private static void shortTexts(int variables, String signs, int longest) {
        int count = 1;
        for (int length = 0; length <= longest; length++) {
            for (int number = 0; number < count; number++) {
                StringBuilder text = new StringBuilder();
                for (int i = 0, left = number; i < length; i++, left /= signs.length()) {
                    text.append(signs.charAt(left % signs.length()));
                }
                new SmallRingsTest(variables).readAs(text.toString());
            }
            count *= signs.length();
        }
    }

    private void readAs(String text) {
        for (int i = 0; i < text.length(); i++) {
            answers(TYPE, text.charAt(i), 0, 0, 0);
        }
        int wrongBefore = Check.wrongSoFar();
        answers(FAULT, 0, 0, 0, 0);
        changes(READ, 0, 0, 0, 0);
        answers(CLEAR, 0, 0, 0, 0);
        if (Check.wrongSoFar() > wrongBefore) {
            Check.tell("the text was \"" + text + "\"");
        }
    }
}
