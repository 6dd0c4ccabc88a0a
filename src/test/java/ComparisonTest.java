import java.util.Arrays;
import java.util.Random;

/** Seeded random runs of at most 512 calls, answered by BooleanRing and by the plain model alike. */
public final class ComparisonTest {
    private static final int RUNS = 3000;
    private static final int CALLS = 512;
    private static final int METHODS = 39;
    private static final int[] ODD_NUMBERS = {
        -1, -2, 7, 8, 9, 3, 255, 256, 64, 1000, Integer.MAX_VALUE, Integer.MIN_VALUE,
    };

    private final Random random;
    private final Calls ring = Calls.of(new BooleanRing());
    private final PlainRing model = new PlainRing();
    private final Calls plain = Calls.of(model);
    private final int run;
    private int calls = 0;

    private ComparisonTest(int run) {
        this.run = run;
        this.random = new Random(run);
    }

    public static void main(String[] args) {
        for (int run = 0; run < RUNS && Check.wrongSoFar() == 0; run++) {
            new ComparisonTest(run).compare();
        }
        Check.end("ComparisonTest");
    }

    private void compare() {
        same(2, 1 + random.nextInt(6), 0, 0, 0);
        int last = random.nextInt(250);
        while (calls < last) {
            step();
        }
        compareRegisters();
        for (int i = 0; i < 7; i++) {
            same(14, 0, 0, 0, 0);
            same(20, 0, 0, 0, 0);
        }
    }

    private void compareRegisters() {
        int n = model.variables();
        int first = random.nextInt(8);
        for (int r = 0; r < 8; r++) {
            for (int m = 0; m < 1 << n && calls < CALLS - 20; m++) {
                same(15, (first + r) % 8, m, 0, 0);
            }
        }
    }

    private void step() {
        int dice = random.nextInt(10);
        if (dice == 0) {
            typePolynomial();
        } else if (dice == 1) {
            fillRegister();
        } else {
            int method = 2 + random.nextInt(METHODS - 1);
            if (method != 2 || random.nextInt(10) == 0) {
                callAny(method);
            }
        }
    }

    /** A text that is mostly of the form, with a wrong character now and then. */
    private void typePolynomial() {
        same(35, 0, 0, 0, 0);
        int terms = random.nextInt(6);
        for (int i = 0; i < terms; i++) {
            typeTerm();
            if (i + 1 < terms || random.nextInt(8) == 0) {
                same(34, '+', 0, 0, 0);
            }
            if (random.nextInt(15) == 0) {
                same(34, " a0+1f~cgZ@`".charAt(random.nextInt(12)), 0, 0, 0);
            }
        }
        same(36, 0, 0, 0, 0);
        same(37, random.nextInt(8), 0, 0, 0);
    }

    private void typeTerm() {
        int monomial = random.nextInt(1 << model.variables());
        if (monomial == 0 || random.nextInt(6) == 0) {
            same(34, random.nextBoolean() ? '0' : '1', 0, 0, 0);
            return;
        }
        for (int k = 0; k < 6; k++) {
            if ((monomial >> k & 1) == 1) {
                same(34, 'a' + k, 0, 0, 0);
            }
        }
    }

    private void fillRegister() {
        int register = random.nextInt(8);
        int times = 1 + random.nextInt(6);
        for (int i = 0; i < times; i++) {
            same(random.nextBoolean() ? 4 : 12, register, random.nextInt(1 << model.variables()), 0, 0);
        }
    }

    private void callAny(int method) {
        int[] x = new int[4];
        for (int i = 0; i < x.length; i++) {
            x[i] = argument(method, i);
            if (random.nextInt(25) == 0) {
                x[i] = ODD_NUMBERS[random.nextInt(ODD_NUMBERS.length)];
            }
        }
        same(method, x[0], x[1], x[2], x[3]);
    }

    /** A number for the place of an argument that is in its range, or just outside. */
    private int argument(int method, int place) {
        char kind = Calls.kindsOf(method).charAt(place);
        switch (kind) {
            case 'r': return random.nextInt(8);
            case 'm': return random.nextInt(1 << model.variables());
            case 'v': return random.nextInt(model.variables());
            case 'b': return random.nextInt(2);
            case 'o': return random.nextInt(3);
            case 's': return random.nextInt(3) == 0 ? random.nextInt(256) : 1 << random.nextInt(8) | 1 << random.nextInt(8);
            case 'i': return random.nextInt(3) == 0 ? random.nextInt(70) : random.nextInt(8);
            case 'c': return "01+abcdef 1+".charAt(random.nextInt(12));
            case 'n': return 1 + random.nextInt(6);
            default: return 0;
        }
    }

    private void same(int promise, int a, int b, int c, int d) {
        calls++;
        int got = ring.answer(promise, a, b, c, d);
        int want = plain.answer(promise, a, b, c, d);
        String call = "run " + run + ", call " + calls + ": promise " + promise + " with ";
        Check.due(call + Arrays.toString(new int[] {a, b, c, d}), got, want);
    }
}
