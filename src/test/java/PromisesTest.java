/** For each promise its ordinary answers, the edges that the document names, and wrong inputs. */
public final class PromisesTest {
    private static final int[] NO_REGISTERS = {-1, 8, Integer.MIN_VALUE, Integer.MAX_VALUE};
    private static final int[] NO_SETS = {-1, 256, Integer.MIN_VALUE, Integer.MAX_VALUE};
    private static final int[] NO_MASKS_OF_4 = {-1, 16, Integer.MIN_VALUE, Integer.MAX_VALUE};
    private static final int[] NO_VARIABLES_OF_4 = {-1, 4, 32, Integer.MIN_VALUE, Integer.MAX_VALUE};
    private static final int[] NO_ORDERS = {-1, 3, Integer.MIN_VALUE, Integer.MAX_VALUE};

    private PromisesTest() {
    }

    public static void main(String[] args) {
        constants();
        newObject();
        reset();
        toggle();
        copy();
        sum();
        product();
        times();
        restrict();
        substitute();
        derivative();
        flip();
        exchange();
        undo();
        everyChangeIsRecorded();
        errorsAreNotRecorded();
        has();
        terms();
        degree();
        occurring();
        size();
        sharedSize();
        termAt();
        ordersAsDefined();
        value();
        isSame();
        reduce();
        echelon();
        zeros();
        zeroAt();
        combine();
        eliminate();
        fibres();
        isMember();
        isSameIdeal();
        fixedVariables();
        type();
        clearText();
        fault();
        read();
        textLength();
        textAt();
        Check.end("PromisesTest");
    }

    // ---- helpers

    private static void due(String call, int got, int want) {
        Check.due(call, got, want);
    }

    // ---- registers

    private static void constants() {
        due("INVALID_ARGUMENT", BooleanRing.INVALID_ARGUMENT, -1);
        due("NOT_POSSIBLE", BooleanRing.NOT_POSSIBLE, -2);
        due("LIMIT_REACHED", BooleanRing.LIMIT_REACHED, -3);
        due("NOT_FOUND", BooleanRing.NOT_FOUND, -4);
    }

    private static void newObject() {
        BooleanRing x = new BooleanRing();
        due("variables()", x.variables(), 4);
        for (int r = 0; r < 8; r++) {
            due("terms of a new register", x.terms(r), 0);
        }
        due("undo() of a new object", x.undo(), Rings.IMPOSSIBLE);
        due("clearText() of a new object", x.clearText(), 0);
        BooleanRing y = new BooleanRing();
        x.toggle(0, 1);
        due("another object", y.terms(0), 0);
    }

    private static void reset() {
        BooleanRing x = Rings.with(4, "ab+c", "d");
        Rings.write(x, "abcdef");
        for (int wrong : new int[] {0, 7, -1, Integer.MIN_VALUE, Integer.MAX_VALUE}) {
            due("reset(" + wrong + ")", x.reset(wrong), Rings.INVALID);
        }
        due("terms after a refused reset", x.terms(0), 2);
        due("variables after a refused reset", x.variables(), 4);
        due("reset(6)", x.reset(6), 4);
        due("variables()", x.variables(), 6);
        due("terms after reset", x.terms(0) + x.terms(1), 0);
        due("undo after reset", x.undo(), Rings.IMPOSSIBLE);
        due("the text stays", x.fault(), Rings.NONE);
        due("reset(1)", x.reset(1), 6);
        due("the fault by one variable", x.fault(), 1);
        due("clearText", x.clearText(), 6);
        due("reset to the same", x.reset(1), 1);
        for (int n = 1; n <= 6; n++) {
            x.reset(n);
            due("variables()", x.variables(), n);
            due("the greatest monomial", x.toggle(0, (1 << n) - 1), 1);
            due("one more", x.toggle(0, 1 << n), Rings.INVALID);
            due("the greatest variable", x.derivative(0, n - 1, 0), 1);
            due("one more", x.derivative(0, n, 0), Rings.INVALID);
        }
    }

    private static void toggle() {
        BooleanRing x = new BooleanRing();
        due("toggle(0, 3)", x.toggle(0, 3), 1);
        due("toggle(0, 0)", x.toggle(0, 0), 2);
        due("toggle(0, 15)", x.toggle(0, 15), 3);
        Rings.holds("toggle", x, 0, "abcd+ab+1");
        due("toggle(0, 3)", x.toggle(0, 3), 2);
        Rings.holds("toggle", x, 0, "abcd+1");
        due("toggle(7, 8)", x.toggle(7, 8), 1);
        for (int wrong : NO_REGISTERS) {
            due("toggle(" + wrong + ", 1)", x.toggle(wrong, 1), Rings.INVALID);
        }
        for (int wrong : NO_MASKS_OF_4) {
            due("toggle(0, " + wrong + ")", x.toggle(0, wrong), Rings.INVALID);
        }
        x.reset(6);
        for (int m = 0; m < 64; m++) {
            due("toggle(5, " + m + ")", x.toggle(5, m), m + 1);
        }
        due("toggle(5, 63)", x.toggle(5, 63), 63);
        due("toggle(5, 64)", x.toggle(5, 64), Rings.INVALID);
    }

    private static void copy() {
        BooleanRing x = Rings.with(4, "ab+c", "d");
        due("copy(0, 1)", x.copy(0, 1), 2);
        Rings.holds("copy", x, 1, "ab+c");
        x.toggle(0, 0);
        Rings.holds("a copy stays", x, 1, "ab+c");
        due("copy(0, 0)", x.copy(0, 0), 3);
        due("copy(7, 0)", x.copy(7, 0), 0);
        for (int wrong : NO_REGISTERS) {
            due("copy(" + wrong + ", 1)", x.copy(wrong, 1), Rings.INVALID);
            due("copy(1, " + wrong + ")", x.copy(1, wrong), Rings.INVALID);
        }
    }

    private static void sum() {
        BooleanRing x = Rings.with(4, "ab+c", "c+d+1");
        due("sum(0, 1, 2)", x.sum(0, 1, 2), 3);
        Rings.holds("sum", x, 2, "ab+d+1");
        due("sum(0, 0, 3)", x.sum(0, 0, 3), 0);
        due("sum(0, 7, 0)", x.sum(0, 7, 0), 2);
        due("sum(0, 1, 1)", x.sum(0, 1, 1), 3);
        Rings.holds("sum into a summand", x, 1, "ab+d+1");
        for (int wrong : NO_REGISTERS) {
            due("sum(" + wrong + ", 1, 2)", x.sum(wrong, 1, 2), Rings.INVALID);
            due("sum(1, " + wrong + ", 2)", x.sum(1, wrong, 2), Rings.INVALID);
            due("sum(1, 2, " + wrong + ")", x.sum(1, 2, wrong), Rings.INVALID);
        }
    }

    private static void product() {
        BooleanRing x = Rings.with(4, "a+b", "a+c", "a+1");
        due("product(0, 1, 3)", x.product(0, 1, 3), 4);
        Rings.holds("product", x, 3, "ab+ac+a+bc");
        due("product(0, 0, 3)", x.product(0, 0, 3), 2);
        Rings.holds("a square is the polynomial itself", x, 3, "a+b");
        due("product(0, 7, 3)", x.product(0, 7, 3), 0);
        Rings.put(x, 3, "a");
        due("product(2, 3, 3)", x.product(2, 3, 3), 0);
        for (int wrong : NO_REGISTERS) {
            due("product(" + wrong + ", 1, 2)", x.product(wrong, 1, 2), Rings.INVALID);
            due("product(1, " + wrong + ", 2)", x.product(1, wrong, 2), Rings.INVALID);
            due("product(1, 2, " + wrong + ")", x.product(1, 2, wrong), Rings.INVALID);
        }
        BooleanRing y = Rings.with(6, "a+f", "b+e+1");
        due("product with six variables", y.product(0, 1, 0), 6);
        Rings.holds("product with six variables", y, 0, "ab+ae+a+bf+ef+f");
    }

    private static void times() {
        BooleanRing x = Rings.with(4, "ab+c+1");
        due("times(0, 8, 1)", x.times(0, 8, 1), 3);
        Rings.holds("times", x, 1, "abd+cd+d");
        due("times(0, 0, 1)", x.times(0, 0, 1), 3);
        Rings.holds("times 1", x, 1, "ab+c+1");
        due("times(0, 4, 1)", x.times(0, 4, 1), 1);
        Rings.holds("terms that become the same vanish", x, 1, "abc");
        due("times(0, 15, 0)", x.times(0, 15, 0), 1);
        Rings.holds("times", x, 0, "abcd");
        for (int wrong : NO_REGISTERS) {
            due("times(" + wrong + ", 1, 2)", x.times(wrong, 1, 2), Rings.INVALID);
            due("times(1, 1, " + wrong + ")", x.times(1, 1, wrong), Rings.INVALID);
        }
        for (int wrong : NO_MASKS_OF_4) {
            due("times(1, " + wrong + ", 2)", x.times(1, wrong, 2), Rings.INVALID);
        }
    }

    private static void restrict() {
        BooleanRing x = Rings.with(4, "abc+ab+b+1");
        due("restrict(0, 0, 0, 1)", x.restrict(0, 0, 0, 1), 2);
        Rings.holds("restrict to 0", x, 1, "b+1");
        due("restrict(0, 0, 1, 1)", x.restrict(0, 0, 1, 1), 2);
        Rings.holds("restrict to 1", x, 1, "bc+1");
        due("restrict(0, 3, 1, 1)", x.restrict(0, 3, 1, 1), 4);
        due("restrict(0, 1, 1, 0)", x.restrict(0, 1, 1, 0), 2);
        Rings.holds("restrict in place", x, 0, "ac+a");
        for (int wrong : NO_REGISTERS) {
            due("restrict(" + wrong + ", 0, 0, 0)", x.restrict(wrong, 0, 0, 0), Rings.INVALID);
            due("restrict(0, 0, 0, " + wrong + ")", x.restrict(0, 0, 0, wrong), Rings.INVALID);
        }
        for (int wrong : NO_VARIABLES_OF_4) {
            due("restrict(0, " + wrong + ", 0, 0)", x.restrict(0, wrong, 0, 0), Rings.INVALID);
        }
        for (int wrong : new int[] {-1, 2, Integer.MIN_VALUE, Integer.MAX_VALUE}) {
            due("restrict(0, 0, " + wrong + ", 0)", x.restrict(0, 0, wrong, 0), Rings.INVALID);
        }
    }

    private static void substitute() {
        BooleanRing x = Rings.with(4, "ab+c", "b+d", "a+1");
        due("substitute(0, 0, 1, 3)", x.substitute(0, 0, 1, 3), 3);
        Rings.holds("substitute", x, 3, "bd+b+c");
        due("substitute(0, 0, 2, 3)", x.substitute(0, 0, 2, 3), 3);
        Rings.holds("substitute by what contains the variable", x, 3, "ab+b+c");
        due("substitute(0, 0, 0, 3)", x.substitute(0, 0, 0, 3), 3);
        Rings.holds("substitute by itself", x, 3, "ab+bc+c");
        Rings.put(x, 4, "c");
        Rings.put(x, 5, "a+c");
        due("substitute(5, 0, 4, 3)", x.substitute(5, 0, 4, 3), 0);
        due("substitute(0, 3, 1, 3)", x.substitute(0, 3, 1, 3), 2);
        due("substitute(0, 2, 7, 0)", x.substitute(0, 2, 7, 0), 1);
        Rings.holds("substitute by 0", x, 0, "ab");
        for (int wrong : NO_REGISTERS) {
            due("substitute(" + wrong + ", 0, 0, 0)", x.substitute(wrong, 0, 0, 0), Rings.INVALID);
            due("substitute(0, 0, " + wrong + ", 0)", x.substitute(0, 0, wrong, 0), Rings.INVALID);
            due("substitute(0, 0, 0, " + wrong + ")", x.substitute(0, 0, 0, wrong), Rings.INVALID);
        }
        for (int wrong : NO_VARIABLES_OF_4) {
            due("substitute(0, " + wrong + ", 0, 0)", x.substitute(0, wrong, 0, 0), Rings.INVALID);
        }
    }

    private static void derivative() {
        BooleanRing x = Rings.with(4, "abc+ab+b+1");
        due("derivative(0, 0, 1)", x.derivative(0, 0, 1), 2);
        Rings.holds("derivative", x, 1, "bc+b");
        due("derivative(0, 1, 1)", x.derivative(0, 1, 1), 3);
        Rings.holds("derivative", x, 1, "ac+a+1");
        due("derivative(0, 3, 0)", x.derivative(0, 3, 0), 0);
        for (int wrong : NO_REGISTERS) {
            due("derivative(" + wrong + ", 0, 0)", x.derivative(wrong, 0, 0), Rings.INVALID);
            due("derivative(0, 0, " + wrong + ")", x.derivative(0, 0, wrong), Rings.INVALID);
        }
        for (int wrong : NO_VARIABLES_OF_4) {
            due("derivative(0, " + wrong + ", 0)", x.derivative(0, wrong, 0), Rings.INVALID);
        }
    }

    private static void flip() {
        BooleanRing x = Rings.with(2, "a");
        due("flip(0, 3)", x.flip(0, 3), 2);
        Rings.holds("flip", x, 0, "ab+a");
        due("flip(0, 0)", x.flip(0, 0), 2);
        Rings.holds("flip", x, 0, "b+1");
        BooleanRing y = new BooleanRing();
        for (int point = 0; point < 16; point++) {
            y = Rings.with(4, "ab+cd+1");
            y.copy(0, 1);
            y.flip(1, point);
            for (int other = 0; other < 16; other++) {
                int changed = other == point ? 1 : 0;
                due("value at " + other + " after flip at " + point, y.value(1, other) ^ y.value(0, other), changed);
            }
        }
        for (int wrong : NO_REGISTERS) {
            due("flip(" + wrong + ", 0)", y.flip(wrong, 0), Rings.INVALID);
        }
        for (int wrong : NO_MASKS_OF_4) {
            due("flip(0, " + wrong + ")", y.flip(0, wrong), Rings.INVALID);
        }
    }

    private static void exchange() {
        BooleanRing x = Rings.with(4, "abd+ac+b+1");
        due("exchange(0, 0, 2)", x.exchange(0, 0, 2), 4);
        Rings.holds("exchange", x, 0, "ac+bcd+b+1");
        due("exchange(0, 3, 1)", x.exchange(0, 3, 1), 4);
        Rings.holds("exchange", x, 0, "ac+bcd+d+1");
        due("exchange(0, 2, 2)", x.exchange(0, 2, 2), 4);
        Rings.holds("exchange of a variable with itself", x, 0, "ac+bcd+d+1");
        due("exchange(0, 0, 1)", x.exchange(0, 0, 1), 4);
        Rings.holds("exchange both ways", x, 0, "acd+bc+d+1");
        due("exchange(7, 0, 1)", x.exchange(7, 0, 1), 0);
        for (int wrong : NO_REGISTERS) {
            due("exchange(" + wrong + ", 0, 1)", x.exchange(wrong, 0, 1), Rings.INVALID);
        }
        for (int wrong : NO_VARIABLES_OF_4) {
            due("exchange(0, " + wrong + ", 1)", x.exchange(0, wrong, 1), Rings.INVALID);
            due("exchange(0, 1, " + wrong + ")", x.exchange(0, 1, wrong), Rings.INVALID);
        }
    }

    private static void undo() {
        BooleanRing x = new BooleanRing();
        for (int m = 0; m < 8; m++) {
            x.toggle(m, m);
        }
        for (int left = 5; left >= 0; left--) {
            due("undo()", x.undo(), left);
            due("terms of what was changed", x.terms(left + 2), 0);
            due("terms of what was changed before", x.terms(left + 1), 1);
        }
        due("undo() with an empty history", x.undo(), Rings.IMPOSSIBLE);
        due("the dropped states", x.terms(0) + x.terms(1), 2);
        x.toggle(0, 5);
        due("undo()", x.undo(), 0);
        Rings.holds("undo", x, 0, "1");
        due("undo()", x.undo(), Rings.IMPOSSIBLE);
    }

    /** Each change takes one place in the history, also if nothing becomes different. */
    private static void everyChangeIsRecorded() {
        for (int change = 0; change < 15; change++) {
            BooleanRing x = new BooleanRing();
            Rings.write(x, "0");
            x.toggle(0, 1);
            x.toggle(0, 1);
            due("change " + change, changeBy(x, change), change == 0 ? 1 : change == 8 ? 8 : 0);
            due("undo() of change " + change, x.undo(), 2);
            for (int r = 0; r < 8; r++) {
                due("terms after undo of change " + change, x.terms(r), 0);
            }
            due("undo() of change " + change, x.undo(), 1);
            due("terms after undo", x.terms(0), 1);
        }
    }

    private static int changeBy(BooleanRing x, int change) {
        switch (change) {
            case 0: return x.toggle(3, 3);
            case 1: return x.copy(1, 2);
            case 2: return x.sum(1, 2, 3);
            case 3: return x.product(1, 2, 3);
            case 4: return x.times(1, 2, 3);
            case 5: return x.restrict(1, 2, 1, 3);
            case 6: return x.substitute(1, 2, 3, 4);
            case 7: return x.derivative(1, 2, 3);
            case 8: return x.flip(1, 2);
            case 9: return x.exchange(1, 2, 3);
            case 10: return x.reduce(1, 2, 0, 3);
            case 11: return x.echelon(0, 0);
            case 12: return x.combine(0, 1);
            case 13: return x.eliminate(0, 1, 1);
            default: return x.read(1);
        }
    }

    private static void errorsAreNotRecorded() {
        BooleanRing x = Rings.with(4, "a");
        x.toggle(8, 0);
        x.toggle(0, 16);
        x.copy(0, 8);
        x.sum(0, 0, 8);
        x.product(0, 0, 8);
        x.times(0, 16, 0);
        x.restrict(0, 0, 2, 0);
        x.substitute(0, 4, 0, 0);
        x.derivative(0, 4, 0);
        x.flip(0, 16);
        x.exchange(0, 0, 4);
        x.reduce(0, 256, 0, 0);
        x.reduce(0, 1, 3, 0);
        x.echelon(1, 3);
        x.combine(1, 8);
        x.eliminate(1, 4, 0);
        Rings.write(x, "+");
        x.read(0);
        x.reset(7);
        Rings.holds("after errors", x, 0, "a");
        due("undo()", x.undo(), 0);
        Rings.holds("after undo", x, 0, "0");
    }

    // ---- terms and values

    private static void has() {
        BooleanRing x = Rings.with(4, "abcd+b+1");
        for (int m = 0; m < 16; m++) {
            due("has(0, " + m + ")", x.has(0, m), m == 15 || m == 2 || m == 0 ? 1 : 0);
        }
        for (int wrong : NO_REGISTERS) {
            due("has(" + wrong + ", 0)", x.has(wrong, 0), Rings.INVALID);
        }
        for (int wrong : NO_MASKS_OF_4) {
            due("has(0, " + wrong + ")", x.has(0, wrong), Rings.INVALID);
        }
    }

    private static void terms() {
        BooleanRing x = Rings.with(4, "abcd+b+1", "1");
        due("terms(0)", x.terms(0), 3);
        due("terms(1)", x.terms(1), 1);
        due("terms(7)", x.terms(7), 0);
        for (int wrong : NO_REGISTERS) {
            due("terms(" + wrong + ")", x.terms(wrong), Rings.INVALID);
        }
    }

    private static void degree() {
        BooleanRing x = Rings.with(6, "a+bc", "1", "abcdef+a", "f");
        due("degree(0)", x.degree(0), 2);
        due("degree(1)", x.degree(1), 0);
        due("degree(2)", x.degree(2), 6);
        due("degree(3)", x.degree(3), 1);
        due("degree(4)", x.degree(4), Rings.NONE);
        for (int wrong : NO_REGISTERS) {
            due("degree(" + wrong + ")", x.degree(wrong), Rings.INVALID);
        }
    }

    private static void occurring() {
        BooleanRing x = Rings.with(6, "a+ce", "1", "abcdef", "f");
        due("occurring(0)", x.occurring(0), 21);
        due("occurring(1)", x.occurring(1), 0);
        due("occurring(2)", x.occurring(2), 63);
        due("occurring(3)", x.occurring(3), 32);
        due("occurring(4)", x.occurring(4), 0);
        for (int wrong : NO_REGISTERS) {
            due("occurring(" + wrong + ")", x.occurring(wrong), Rings.INVALID);
        }
    }

    private static void size() {
        BooleanRing x = Rings.with(4, "1", "d", "ab+c+1", "ac+ad+bc+bd", "ab+b", "a+b+c+d");
        due("size(0)", x.size(0), 0);
        due("size(1)", x.size(1), 1);
        due("size(2)", x.size(2), 3);
        // itself, c+d, d, b(c+d)
        due("size(3)", x.size(3), 4);
        // itself, and b for both halves
        due("size(4)", x.size(4), 2);
        due("size(5)", x.size(5), 4);
        due("size(7)", x.size(7), 0);
        for (int wrong : NO_REGISTERS) {
            due("size(" + wrong + ")", x.size(wrong), Rings.INVALID);
        }
    }

    private static void sharedSize() {
        BooleanRing x = Rings.with(4, "1");
        due("sharedSize() of constants", x.sharedSize(), 0);
        Rings.put(x, 1, "ab+c");
        due("sharedSize()", x.sharedSize(), 3);
        Rings.put(x, 2, "c");
        due("a half of another register", x.sharedSize(), 3);
        Rings.put(x, 7, "ab+c");
        due("the same in two registers", x.sharedSize(), 3);
        Rings.put(x, 6, "c+1");
        due("another one", x.sharedSize(), 4);
        Rings.put(x, 0, "a+d");
        due("the first register", x.sharedSize(), 6);
    }

    private static void termAt() {
        BooleanRing x = Rings.with(4, "ad+a+bcd+bc");
        int[][] due = {{9, 1, 14, 6, Rings.NONE}, {14, 9, 6, 1, Rings.NONE}, {14, 6, 9, 1, Rings.NONE}};
        for (int order = 0; order < 3; order++) {
            for (int i = 0; i < 5; i++) {
                due("termAt(0, " + order + ", " + i + ")", x.termAt(0, order, i), due[order][i]);
            }
            due("termAt of 0", x.termAt(1, order, 0), Rings.NONE);
        }
        due("termAt far behind", x.termAt(0, 0, Integer.MAX_VALUE), Rings.NONE);
        due("termAt(0, 0, -1)", x.termAt(0, 0, -1), Rings.INVALID);
        due("termAt(0, 0, MIN)", x.termAt(0, 0, Integer.MIN_VALUE), Rings.INVALID);
        due("termAt(1, 0, -1) of 0", x.termAt(1, 0, -1), Rings.INVALID);
        for (int wrong : NO_REGISTERS) {
            due("termAt(" + wrong + ", 0, 0)", x.termAt(wrong, 0, 0), Rings.INVALID);
        }
        for (int wrong : NO_ORDERS) {
            due("termAt(0, " + wrong + ", 0)", x.termAt(0, wrong, 0), Rings.INVALID);
        }
    }

    /** Of all monomials at once, each is greater than the next one, by the definition of the order. */
    private static void ordersAsDefined() {
        for (int n = 1; n <= 6; n++) {
            BooleanRing x = new BooleanRing();
            x.reset(n);
            for (int m = 0; m < 1 << n; m++) {
                x.toggle(0, m);
            }
            for (int order = 0; order < 3; order++) {
                for (int i = 0; i + 1 < 1 << n; i++) {
                    int a = x.termAt(0, order, i);
                    int b = x.termAt(0, order, i + 1);
                    if (!isGreater(a, b, order)) {
                        Check.tell("order " + order + ", " + n + " variables: " + a + " before " + b);
                    }
                }
                due("the last one", x.termAt(0, order, (1 << n) - 1), 0);
                due("behind it", x.termAt(0, order, 1 << n), Rings.NONE);
            }
        }
    }

    private static boolean isGreater(int a, int b, int order) {
        int byDegree = order == 0 ? 0 : Integer.compare(Integer.bitCount(a), Integer.bitCount(b));
        if (byDegree != 0) {
            return byDegree > 0;
        }
        int d = a ^ b;
        return order == 2 ? (b & Integer.highestOneBit(d)) != 0 : (a & Integer.lowestOneBit(d)) != 0;
    }

    private static void value() {
        BooleanRing x = Rings.with(3, "ab+c+1", "1", "abc");
        int[] due = {1, 1, 1, 0, 0, 0, 0, 1};
        for (int point = 0; point < 8; point++) {
            due("value(0, " + point + ")", x.value(0, point), due[point]);
            due("value(1, " + point + ")", x.value(1, point), 1);
            due("value(2, " + point + ")", x.value(2, point), point == 7 ? 1 : 0);
            due("value(3, " + point + ")", x.value(3, point), 0);
        }
        for (int wrong : NO_REGISTERS) {
            due("value(" + wrong + ", 0)", x.value(wrong, 0), Rings.INVALID);
        }
        for (int wrong : new int[] {-1, 8, 64, Integer.MIN_VALUE, Integer.MAX_VALUE}) {
            due("value(0, " + wrong + ")", x.value(0, wrong), Rings.INVALID);
        }
    }

    private static void isSame() {
        BooleanRing x = Rings.with(6, "abcdef+a", "a+abcdef", "abcdef");
        due("isSame(0, 1)", x.isSame(0, 1), 1);
        due("isSame(0, 2)", x.isSame(0, 2), 0);
        due("isSame(2, 2)", x.isSame(2, 2), 1);
        due("isSame(6, 7)", x.isSame(6, 7), 1);
        for (int wrong : NO_REGISTERS) {
            due("isSame(" + wrong + ", 0)", x.isSame(wrong, 0), Rings.INVALID);
            due("isSame(0, " + wrong + ")", x.isSame(0, wrong), Rings.INVALID);
        }
    }

    // ---- systems

    private static void reduce() {
        BooleanRing x = Rings.with(4, "ab+c", "a+bc+1", "abc+ac+bd+d");
        due("reduce by lex", x.reduce(2, 3, 0, 3), 2);
        Rings.holds("reduce by lex", x, 3, "bc+bd+d");
        due("reduce by graded", x.reduce(2, 3, 1, 3), 1);
        Rings.holds("reduce by graded", x, 3, "ac+bd+c+d");
        due("reduce by none", x.reduce(2, 0, 0, 3), 0);
        Rings.holds("reduce by none", x, 3, "abc+ac+bd+d");
        due("reduce by registers with 0", x.reduce(2, 0xF0, 0, 3), 0);
        due("reduce by itself", x.reduce(2, 4, 0, 3), 1);
        Rings.holds("reduce by itself", x, 3, "0");
        due("reduce 0", x.reduce(7, 7, 0, 3), 0);
        due("reduce in place by itself", x.reduce(2, 4, 2, 2), 1);
        Rings.holds("reduce in place by itself", x, 2, "0");
        // both registers fit the term ab; the lower one is taken
        BooleanRing y = Rings.with(4, "a+c", "b+d", "ab");
        due("the lowest register", y.reduce(2, 1, 0, 3), 1);
        Rings.holds("the lowest register", y, 3, "bc");
        due("the lowest register of two", y.reduce(2, 3, 0, 3), 2);
        Rings.holds("the lowest register of two", y, 3, "cd");
        Rings.put(y, 4, "1");
        due("by 1", y.reduce(2, 16, 1, 3), 1);
        Rings.holds("by 1", y, 3, "0");
        BooleanRing z = Rings.with(6, "abcdef+1", "abcdef+f");
        due("the greatest monomial of all", z.reduce(1, 1, 0, 2), 1);
        Rings.holds("the greatest monomial of all", z, 2, "f+1");
        reverseReduce();
        wrongReduce(y);
    }

    /** ad+bc leads with ad by graded, with bc by reverse. */
    private static void reverseReduce() {
        BooleanRing x = Rings.with(4, "ad+bc", "abc+ad");
        due("reduce by graded", x.reduce(1, 1, 1, 2), 1);
        Rings.holds("reduce by graded", x, 2, "abc+bc");
        due("reduce by reverse", x.reduce(1, 1, 2, 2), 1);
        Rings.holds("reduce by reverse", x, 2, "0");
    }

    private static void wrongReduce(BooleanRing x) {
        for (int wrong : NO_REGISTERS) {
            due("reduce(" + wrong + ", 0, 0, 0)", x.reduce(wrong, 0, 0, 0), Rings.INVALID);
            due("reduce(0, 0, 0, " + wrong + ")", x.reduce(0, 0, 0, wrong), Rings.INVALID);
        }
        for (int wrong : NO_SETS) {
            due("reduce(0, " + wrong + ", 0, 0)", x.reduce(0, wrong, 0, 0), Rings.INVALID);
        }
        for (int wrong : NO_ORDERS) {
            due("reduce(0, 0, " + wrong + ", 0)", x.reduce(0, 0, wrong, 0), Rings.INVALID);
        }
    }

    private static void echelon() {
        BooleanRing x = Rings.with(4, "c", "a+b", "b+c", "a+c", "d");
        due("echelon", x.echelon(2 + 4 + 8 + 32, 0), 2);
        Rings.holds("outside of the set", x, 0, "c");
        Rings.holds("echelon", x, 1, "a+c");
        Rings.holds("echelon", x, 2, "b+c");
        Rings.holds("echelon", x, 3, "0");
        Rings.holds("outside of the set", x, 4, "d");
        Rings.holds("echelon", x, 5, "0");
        due("undo of echelon", x.undo(), 5);
        Rings.holds("undo of echelon", x, 1, "a+b");
        BooleanRing y = Rings.with(4, "0", "a+bc", "0", "a");
        due("echelon by lex", y.echelon(255, 0), 2);
        Rings.holds("echelon by lex", y, 0, "a");
        Rings.holds("echelon by lex", y, 1, "bc");
        y.undo();
        due("echelon by graded", y.echelon(255, 1), 2);
        Rings.holds("echelon by graded", y, 0, "bc");
        Rings.holds("echelon by graded", y, 1, "a");
        Rings.holds("echelon by graded", y, 3, "0");
        Rings.put(y, 0, "ad+bc");
        Rings.put(y, 1, "bc+1");
        y.copy(0, 2);
        y.copy(1, 3);
        due("echelon by reverse", y.echelon(12, 2), 2);
        Rings.holds("echelon by reverse", y, 2, "bc+1");
        Rings.holds("echelon by reverse", y, 3, "ad+1");
        BooleanRing z = Rings.with(6, "abcdef+1", "abcdef+f");
        due("echelon with the greatest monomial of all", z.echelon(3, 1), 2);
        Rings.holds("echelon with the greatest monomial of all", z, 0, "abcdef+1");
        Rings.holds("echelon with the greatest monomial of all", z, 1, "f+1");
        due("echelon of none", y.echelon(0, 0), 0);
        due("echelon of 0", y.echelon(0xF0, 0), 0);
        for (int wrong : NO_SETS) {
            due("echelon(" + wrong + ", 0)", y.echelon(wrong, 0), Rings.INVALID);
        }
        for (int wrong : NO_ORDERS) {
            due("echelon(1, " + wrong + ")", y.echelon(1, wrong), Rings.INVALID);
        }
    }

    private static void zeros() {
        BooleanRing x = Rings.with(3, "ab+c", "a+1", "1");
        due("zeros(1)", x.zeros(1), 4);
        due("zeros(3)", x.zeros(3), 2);
        due("zeros(4)", x.zeros(4), 0);
        due("zeros(0)", x.zeros(0), 8);
        due("zeros(128)", x.zeros(128), 8);
        for (int wrong : NO_SETS) {
            due("zeros(" + wrong + ")", x.zeros(wrong), Rings.INVALID);
        }
        for (int n = 1; n <= 6; n++) {
            x.reset(n);
            due("zeros(0) of " + n, x.zeros(0), 1 << n);
            due("zeros(255) of " + n, x.zeros(255), 1 << n);
        }
    }

    private static void zeroAt() {
        BooleanRing x = Rings.with(3, "ab+c", "a+1", "1");
        int[] due = {0, 1, 2, 7, Rings.NONE};
        for (int i = 0; i < due.length; i++) {
            due("zeroAt(1, " + i + ")", x.zeroAt(1, i), due[i]);
        }
        due("zeroAt(3, 1)", x.zeroAt(3, 1), 7);
        due("zeroAt(4, 0)", x.zeroAt(4, 0), Rings.NONE);
        due("zeroAt(0, 7)", x.zeroAt(0, 7), 7);
        due("zeroAt(0, 8)", x.zeroAt(0, 8), Rings.NONE);
        due("zeroAt(0, MAX)", x.zeroAt(0, Integer.MAX_VALUE), Rings.NONE);
        due("zeroAt(0, -1)", x.zeroAt(0, -1), Rings.INVALID);
        due("zeroAt(4, -1)", x.zeroAt(4, -1), Rings.INVALID);
        for (int wrong : NO_SETS) {
            due("zeroAt(" + wrong + ", 0)", x.zeroAt(wrong, 0), Rings.INVALID);
        }
        x.reset(6);
        due("zeroAt(0, 63)", x.zeroAt(0, 63), 63);
        due("zeroAt(0, 64)", x.zeroAt(0, 64), Rings.NONE);
    }

    private static void combine() {
        BooleanRing x = Rings.with(3, "a", "b", "1");
        due("combine(3, 3)", x.combine(3, 3), 3);
        Rings.holds("combine", x, 3, "ab+a+b");
        due("combine(0, 3)", x.combine(0, 3), 0);
        due("combine(7, 3)", x.combine(7, 3), 1);
        Rings.holds("combine with 1", x, 3, "1");
        due("combine(2, 1)", x.combine(2, 1), 1);
        Rings.holds("combine in place", x, 1, "b");
        for (int wrong : NO_SETS) {
            due("combine(" + wrong + ", 0)", x.combine(wrong, 0), Rings.INVALID);
        }
        for (int wrong : NO_REGISTERS) {
            due("combine(0, " + wrong + ")", x.combine(0, wrong), Rings.INVALID);
        }
    }

    private static void eliminate() {
        BooleanRing x = Rings.with(4, "ab+c", "a+1", "1");
        due("eliminate(1, 0, 3)", x.eliminate(1, 0, 3), 2);
        Rings.holds("c = 1 needs b = 1", x, 3, "bc+c");
        due("eliminate(3, 0, 3)", x.eliminate(3, 0, 3), 2);
        Rings.holds("eliminate", x, 3, "b+c");
        due("eliminate(3, 3, 3)", x.eliminate(3, 3, 3), 4);
        Rings.holds("eliminate what does not occur", x, 3, "ab+ac+a+1");
        due("eliminate(0, 0, 3)", x.eliminate(0, 0, 3), 0);
        due("eliminate(4, 0, 3)", x.eliminate(4, 0, 3), 1);
        Rings.holds("eliminate without a zero", x, 3, "1");
        for (int wrong : NO_SETS) {
            due("eliminate(" + wrong + ", 0, 0)", x.eliminate(wrong, 0, 0), Rings.INVALID);
        }
        for (int wrong : NO_VARIABLES_OF_4) {
            due("eliminate(0, " + wrong + ", 0)", x.eliminate(0, wrong, 0), Rings.INVALID);
        }
        for (int wrong : NO_REGISTERS) {
            due("eliminate(0, 0, " + wrong + ")", x.eliminate(0, 0, wrong), Rings.INVALID);
        }
    }

    private static void fibres() {
        BooleanRing x = Rings.with(3, "ab+c", "1");
        int[][] due = {{1, 2, 1}, {1, 2, 1}, {0, 4, 0}};
        for (int variable = 0; variable < 3; variable++) {
            for (int many = 0; many < 3; many++) {
                due("fibres(1, " + variable + ", " + many + ")", x.fibres(1, variable, many), due[variable][many]);
            }
        }
        due("fibres(0, 0, 2)", x.fibres(0, 0, 2), 4);
        due("fibres(0, 0, 0)", x.fibres(0, 0, 0), 0);
        due("fibres(2, 2, 0)", x.fibres(2, 2, 0), 4);
        for (int wrong : NO_SETS) {
            due("fibres(" + wrong + ", 0, 0)", x.fibres(wrong, 0, 0), Rings.INVALID);
        }
        for (int wrong : new int[] {-1, 3, 32, Integer.MIN_VALUE, Integer.MAX_VALUE}) {
            due("fibres(0, " + wrong + ", 0)", x.fibres(0, wrong, 0), Rings.INVALID);
            due("fibres(0, 0, " + wrong + ")", x.fibres(0, 0, wrong), Rings.INVALID);
        }
        x.reset(1);
        due("fibres of one variable", x.fibres(0, 0, 2), 1);
        x.toggle(0, 1);
        due("fibres of one variable", x.fibres(1, 0, 1), 1);
        x.reset(6);
        due("fibres of six variables", x.fibres(0, 5, 2), 32);
        x.toggle(0, 0);
        due("fibres of six variables", x.fibres(1, 5, 0), 32);
    }

    private static void isMember() {
        BooleanRing x = Rings.with(4, "ab+c", "a+1", "bd+cd", "b+c", "d", "1");
        due("isMember(2, 3)", x.isMember(2, 3), 1);
        due("isMember(3, 3)", x.isMember(3, 3), 1);
        due("isMember(4, 3)", x.isMember(4, 3), 0);
        due("isMember(2, 2)", x.isMember(2, 2), 0);
        due("0 in the ideal of none", x.isMember(7, 0), 1);
        due("another one in the ideal of none", x.isMember(0, 0), 0);
        due("in the ideal of 1", x.isMember(4, 32), 1);
        due("1 in an ideal with zeros", x.isMember(5, 3), 0);
        for (int wrong : NO_REGISTERS) {
            due("isMember(" + wrong + ", 0)", x.isMember(wrong, 0), Rings.INVALID);
        }
        for (int wrong : NO_SETS) {
            due("isMember(0, " + wrong + ")", x.isMember(0, wrong), Rings.INVALID);
        }
    }

    private static void isSameIdeal() {
        BooleanRing x = Rings.with(4, "ab+c", "a+1", "b+c", "1", "a", "ab+a+b", "b");
        due("isSameIdeal(3, 6)", x.isSameIdeal(3, 6), 1);
        due("isSameIdeal(3, 4)", x.isSameIdeal(3, 4), 0);
        due("a and b, or their combination", x.isSameIdeal(16 + 64, 32), 1);
        due("a and a + 1 make 1", x.isSameIdeal(2 + 16, 8), 1);
        due("none and 0", x.isSameIdeal(0, 128), 1);
        due("none and a", x.isSameIdeal(0, 16), 0);
        for (int wrong : NO_SETS) {
            due("isSameIdeal(" + wrong + ", 0)", x.isSameIdeal(wrong, 0), Rings.INVALID);
            due("isSameIdeal(0, " + wrong + ")", x.isSameIdeal(0, wrong), Rings.INVALID);
        }
    }

    private static void fixedVariables() {
        BooleanRing x = Rings.with(4, "a+1", "b", "1", "c+d");
        due("fixedVariables(0)", x.fixedVariables(0), 0);
        due("fixedVariables(1)", x.fixedVariables(1), 1);
        due("fixedVariables(3)", x.fixedVariables(3), 2);
        due("fixedVariables(11)", x.fixedVariables(11), 2);
        due("fixedVariables(4)", x.fixedVariables(4), Rings.NONE);
        Rings.put(x, 4, "cd+1");
        due("fixedVariables with one zero", x.fixedVariables(16 + 3), 4);
        for (int wrong : NO_SETS) {
            due("fixedVariables(" + wrong + ")", x.fixedVariables(wrong), Rings.INVALID);
        }
    }

    // ---- texts

    private static void type() {
        BooleanRing x = new BooleanRing();
        int[] wrongs = {31, 127, -1, 0, 97 + 65536, Integer.MIN_VALUE, Integer.MAX_VALUE};
        for (int wrong : wrongs) {
            due("type(" + wrong + ")", x.type(wrong), Rings.INVALID);
        }
        due("type(32)", x.type(32), 1);
        due("type(126)", x.type(126), 2);
        for (int i = 3; i <= 60; i++) {
            due("type(97)", x.type(97), i);
        }
        due("type in a full text", x.type(97), Rings.LIMIT);
        for (int wrong : wrongs) {
            due("type(" + wrong + ") in a full text", x.type(wrong), Rings.INVALID);
        }
        due("clearText()", x.clearText(), 60);
        due("type(97)", x.type(97), 1);
    }

    private static void clearText() {
        BooleanRing x = new BooleanRing();
        due("clearText()", x.clearText(), 0);
        Rings.write(x, "abc");
        due("clearText()", x.clearText(), 3);
        due("clearText()", x.clearText(), 0);
        due("fault()", x.fault(), 0);
        x.toggle(0, 1);
        Rings.write(x, "b");
        x.undo();
        due("undo leaves the text", x.clearText(), 1);
    }

    private static void fault() {
        String[] right = {"0", "1", "a", "d", "abcd", "a+b", "0+1+a+0", "abcd+abcd", "a+a", "1+1"};
        BooleanRing x = new BooleanRing();
        for (String text : right) {
            Rings.write(x, text);
            due("fault of " + text, x.fault(), Rings.NONE);
        }
        String[] wrong = {
            "", "+", "a+", "a++b", "ba", "aa", "e", "abe", "a1", "1a", "10", "01", "0a", "a b", " a", "A", "a+e",
            "2", "a*b", "ab+cb", "1+", "a`", "~",
        };
        int[] due = {0, 0, 2, 2, 1, 1, 0, 2, 1, 1, 1, 1, 1, 1, 0, 0, 2, 0, 1, 4, 2, 1, 0};
        for (int i = 0; i < wrong.length; i++) {
            Rings.write(x, wrong[i]);
            due("fault of " + wrong[i], x.fault(), due[i]);
        }
        x.reset(6);
        Rings.write(x, "abcdef+f");
        due("fault with six variables", x.fault(), Rings.NONE);
        Rings.write(x, "ag");
        due("fault with six variables", x.fault(), 1);
        fullTexts(x);
    }

    private static void fullTexts(BooleanRing x) {
        String terms = "a+".repeat(29);
        Rings.write(x, terms + "ab");
        due("fault of a full text", x.fault(), Rings.NONE);
        Rings.write(x, terms + "a+");
        due("fault of a full text that ends with +", x.fault(), 60);
        Rings.write(x, terms + "aa");
        due("fault at the last character", x.fault(), 59);
    }

    private static void read() {
        BooleanRing x = new BooleanRing();
        Rings.write(x, "0+ab+1+d+ab+ab");
        due("read(0)", x.read(0), 3);
        Rings.holds("read", x, 0, "ab+d+1");
        due("read again", x.read(7), 3);
        Rings.write(x, "a+a");
        due("read a+a", x.read(0), 0);
        Rings.write(x, "1+1+1");
        due("read 1+1+1", x.read(0), 1);
        Rings.holds("read", x, 0, "1");
        Rings.write(x, "0");
        due("read 0", x.read(0), 0);
        Rings.write(x, "a+0");
        due("read a+0", x.read(0), 1);
        for (String wrong : new String[] {"", "a+", "ba", "e", "a b"}) {
            Rings.write(x, wrong);
            due("read " + wrong, x.read(0), Rings.IMPOSSIBLE);
            for (int register : NO_REGISTERS) {
                due("read " + wrong + " into " + register, x.read(register), Rings.INVALID);
            }
        }
        Rings.holds("after refused reads", x, 0, "a");
        Rings.write(x, "a");
        for (int register : NO_REGISTERS) {
            due("read into " + register, x.read(register), Rings.INVALID);
        }
        due("the text stays", x.clearText(), 1);
    }

    private static void textLength() {
        BooleanRing x = Rings.with(6, "0", "1", "f", "1+a+abcdef");
        due("textLength(0)", x.textLength(0), 1);
        due("textLength(1)", x.textLength(1), 1);
        due("textLength(2)", x.textLength(2), 1);
        due("textLength(3)", x.textLength(3), 10);
        for (int m = 0; m < 64; m++) {
            x.toggle(7, m);
        }
        due("textLength of all monomials", x.textLength(7), 192 + 1 + 63);
        for (int wrong : NO_REGISTERS) {
            due("textLength(" + wrong + ")", x.textLength(wrong), Rings.INVALID);
        }
    }

    private static void textAt() {
        BooleanRing x = Rings.with(6, "0", "1", "1+f+bc+abcdef+a");
        due("textAt(0, 0)", x.textAt(0, 0), '0');
        due("textAt(0, 1)", x.textAt(0, 1), Rings.NONE);
        due("textAt(1, 0)", x.textAt(1, 0), '1');
        due("textAt(1, 1)", x.textAt(1, 1), Rings.NONE);
        String want = "abcdef+a+bc+f+1";
        for (int i = 0; i < want.length(); i++) {
            due("textAt(2, " + i + ")", x.textAt(2, i), want.charAt(i));
        }
        due("textAt behind the end", x.textAt(2, want.length()), Rings.NONE);
        due("textAt far behind the end", x.textAt(2, Integer.MAX_VALUE), Rings.NONE);
        due("textAt(2, -1)", x.textAt(2, -1), Rings.INVALID);
        due("textAt(2, MIN)", x.textAt(2, Integer.MIN_VALUE), Rings.INVALID);
        for (int wrong : NO_REGISTERS) {
            due("textAt(" + wrong + ", 0)", x.textAt(wrong, 0), Rings.INVALID);
        }
    }
}
