import java.util.Arrays;
import java.util.Random;

/** Seeded random runs of at most 512 calls, answered by BooleanRing and by the plain model alike. */
public final class ComparisonTest {
    private static final int RUNS = 3000;
    private static final int CALLS = 512;
    private static final int METHODS = 39;
    private static final int[] ODD_NUMBERS = {
        -1, -2, 7, 8, 9, 3, 255, 256, 64, 1000, Integer.MAX_VALUE, Integer.MIN_VALUE,
    };

    private final Random random;
    private final BooleanRing ring = new BooleanRing();
    private final PlainRing plain = new PlainRing();
    private final int run;
    private int calls = 0;

    private ComparisonTest(int run) {
        this.run = run;
        this.random = new Random(run);
    }

    public static void main(String[] args) {
        for (int run = 0; run < RUNS && Check.wrongSoFar() == 0; run++) {
            new ComparisonTest(run).compare();
        }
        Check.end("ComparisonTest");
    }

    private void compare() {
        same(2, 1 + random.nextInt(6), 0, 0, 0);
        int last = random.nextInt(250);
        while (calls < last) {
            step();
        }
        compareRegisters();
        for (int i = 0; i < 7; i++) {
            same(14, 0, 0, 0, 0);
            same(20, 0, 0, 0, 0);
        }
    }

    private void compareRegisters() {
        int n = plain.variables();
        int first = random.nextInt(8);
        for (int r = 0; r < 8; r++) {
            for (int m = 0; m < 1 << n && calls < CALLS - 20; m++) {
                same(15, (first + r) % 8, m, 0, 0);
            }
        }
    }

    private void step() {
        int dice = random.nextInt(10);
        if (dice == 0) {
            typePolynomial();
        } else if (dice == 1) {
            fillRegister();
        } else {
            int method = 2 + random.nextInt(METHODS - 1);
            if (method != 2 || random.nextInt(10) == 0) {
                callAny(method);
            }
        }
    }

    /** A text that is mostly of the form, with a wrong character now and then. */
    private void typePolynomial() {
        same(35, 0, 0, 0, 0);
        int terms = random.nextInt(6);
        for (int i = 0; i < terms; i++) {
            typeTerm();
            if (i + 1 < terms || random.nextInt(8) == 0) {
                same(34, '+', 0, 0, 0);
            }
            if (random.nextInt(15) == 0) {
                same(34, " a0+1f~cgZ@`".charAt(random.nextInt(12)), 0, 0, 0);
            }
        }
        same(36, 0, 0, 0, 0);
        same(37, random.nextInt(8), 0, 0, 0);
    }

    private void typeTerm() {
        int monomial = random.nextInt(1 << plain.variables());
        if (monomial == 0 || random.nextInt(6) == 0) {
            same(34, random.nextBoolean() ? '0' : '1', 0, 0, 0);
            return;
        }
        for (int k = 0; k < 6; k++) {
            if ((monomial >> k & 1) == 1) {
                same(34, 'a' + k, 0, 0, 0);
            }
        }
    }

    private void fillRegister() {
        int register = random.nextInt(8);
        int times = 1 + random.nextInt(6);
        for (int i = 0; i < times; i++) {
            same(random.nextBoolean() ? 4 : 12, register, random.nextInt(1 << plain.variables()), 0, 0);
        }
    }

    private void callAny(int method) {
        int[] x = new int[4];
        for (int i = 0; i < x.length; i++) {
            x[i] = argument(method, i);
            if (random.nextInt(25) == 0) {
                x[i] = ODD_NUMBERS[random.nextInt(ODD_NUMBERS.length)];
            }
        }
        same(method, x[0], x[1], x[2], x[3]);
    }

    /** A number for the place of an argument that is in its range, or just outside. */
    private int argument(int method, int place) {
        char kind = kindsOf(method).charAt(place);
        switch (kind) {
            case 'r': return random.nextInt(8);
            case 'm': return random.nextInt(1 << plain.variables());
            case 'v': return random.nextInt(plain.variables());
            case 'b': return random.nextInt(2);
            case 'o': return random.nextInt(3);
            case 's': return random.nextInt(3) == 0 ? random.nextInt(256) : 1 << random.nextInt(8) | 1 << random.nextInt(8);
            case 'i': return random.nextInt(3) == 0 ? random.nextInt(70) : random.nextInt(8);
            case 'c': return "01+abcdef 1+".charAt(random.nextInt(12));
            case 'n': return 1 + random.nextInt(6);
            default: return 0;
        }
    }

    private static String kindsOf(int method) {
        String[] kinds = {
            "n", "", "rm", "rr", "rrr", "rrr", "rmr", "rvbr", "rvrr", "rvr", "rm", "rvv", "",
            "rm", "r", "r", "r", "r", "", "roi", "rm", "rr", "rsor", "so", "s", "si", "sr", "svr", "svo",
            "rs", "ss", "s", "c", "", "", "r", "r", "ri",
        };
        return (kinds[method - 2] + "----").substring(0, 4);
    }

    private void same(int promise, int a, int b, int c, int d) {
        calls++;
        int got = answer(promise, a, b, c, d);
        int want = plainAnswer(promise, a, b, c, d);
        String call = "run " + run + ", call " + calls + ": promise " + promise + " with ";
        Check.due(call + Arrays.toString(new int[] {a, b, c, d}), got, want);
    }

    private int answer(int promise, int a, int b, int c, int d) {
        switch (promise) {
            case 2: return ring.reset(a);
            case 3: return ring.variables();
            case 4: return ring.toggle(a, b);
            case 5: return ring.copy(a, b);
            case 6: return ring.sum(a, b, c);
            case 7: return ring.product(a, b, c);
            case 8: return ring.times(a, b, c);
            case 9: return ring.restrict(a, b, c, d);
            case 10: return ring.substitute(a, b, c, d);
            case 11: return ring.derivative(a, b, c);
            case 12: return ring.flip(a, b);
            case 13: return ring.exchange(a, b, c);
            case 14: return ring.undo();
            case 15: return ring.has(a, b);
            case 16: return ring.terms(a);
            case 17: return ring.degree(a);
            case 18: return ring.occurring(a);
            case 19: return ring.size(a);
            case 20: return ring.sharedSize();
            case 21: return ring.termAt(a, b, c);
            case 22: return ring.value(a, b);
            case 23: return ring.isSame(a, b);
            case 24: return ring.reduce(a, b, c, d);
            case 25: return ring.echelon(a, b);
            case 26: return ring.zeros(a);
            case 27: return ring.zeroAt(a, b);
            case 28: return ring.combine(a, b);
            case 29: return ring.eliminate(a, b, c);
            case 30: return ring.fibres(a, b, c);
            case 31: return ring.isMember(a, b);
            case 32: return ring.isSameIdeal(a, b);
            case 33: return ring.fixedVariables(a);
            case 34: return ring.type(a);
            case 35: return ring.clearText();
            case 36: return ring.fault();
            case 37: return ring.read(a);
            case 38: return ring.textLength(a);
            case 39: return ring.textAt(a, b);
            default: throw new IllegalArgumentException("promise " + promise);
        }
    }

    private int plainAnswer(int promise, int a, int b, int c, int d) {
        switch (promise) {
            case 2: return plain.reset(a);
            case 3: return plain.variables();
            case 4: return plain.toggle(a, b);
            case 5: return plain.copy(a, b);
            case 6: return plain.sum(a, b, c);
            case 7: return plain.product(a, b, c);
            case 8: return plain.times(a, b, c);
            case 9: return plain.restrict(a, b, c, d);
            case 10: return plain.substitute(a, b, c, d);
            case 11: return plain.derivative(a, b, c);
            case 12: return plain.flip(a, b);
            case 13: return plain.exchange(a, b, c);
            case 14: return plain.undo();
            case 15: return plain.has(a, b);
            case 16: return plain.terms(a);
            case 17: return plain.degree(a);
            case 18: return plain.occurring(a);
            case 19: return plain.size(a);
            case 20: return plain.sharedSize();
            case 21: return plain.termAt(a, b, c);
            case 22: return plain.value(a, b);
            case 23: return plain.isSame(a, b);
            case 24: return plain.reduce(a, b, c, d);
            case 25: return plain.echelon(a, b);
            case 26: return plain.zeros(a);
            case 27: return plain.zeroAt(a, b);
            case 28: return plain.combine(a, b);
            case 29: return plain.eliminate(a, b, c);
            case 30: return plain.fibres(a, b, c);
            case 31: return plain.isMember(a, b);
            case 32: return plain.isSameIdeal(a, b);
            case 33: return plain.fixedVariables(a);
            case 34: return plain.type(a);
            case 35: return plain.clearText();
            case 36: return plain.fault();
            case 37: return plain.read(a);
            case 38: return plain.textLength(a);
            case 39: return plain.textAt(a, b);
            default: throw new IllegalArgumentException("promise " + promise);
        }
    }
}
