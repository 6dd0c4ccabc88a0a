/** The boundary cases of promises 1 to 14, each under its own name. The ranges of arguments are in RangesTest. */
public final class RegisterBoundariesTest {
    private RegisterBoundariesTest() {
    }

    public static void main(String[] args) {
        newObject();
        reset();
        resetKeepsAndForgets();
        variables();
        toggle();
        copy();
        sum();
        product();
        times();
        restrict();
        substitute();
        substituteInPlace();
        derivative();
        flip();
        exchange();
        undo();
        undoAndTheRest();
        Check.everyPromiseHasACase(1, 14);
        Check.end("RegisterBoundariesTest");
    }

    private static void newObject() {
        Check.boundary(1, "there are 4 variables at first", () -> {
            BooleanRing x = new BooleanRing();
            Check.due("variables()", x.variables(), 4);
            Check.due("toggle(0, 15)", x.toggle(0, 15), 1);
            Check.due("toggle(0, 16)", x.toggle(0, 16), Rings.INVALID);
            Check.due("derivative(0, 3, 1)", x.derivative(0, 3, 1), 1);
            Check.due("derivative(0, 4, 1)", x.derivative(0, 4, 1), Rings.INVALID);
        });
        Check.boundary(1, "all eight registers contain 0", () -> {
            BooleanRing x = new BooleanRing();
            Rings.hold("at first", x, "0", "0", "0", "0", "0", "0", "0", "0");
            Check.due("terms of a ninth register", x.terms(8), Rings.INVALID);
        });
        Check.boundary(1, "the history is empty", () -> {
            Check.due("undo()", new BooleanRing().undo(), Rings.IMPOSSIBLE);
        });
        Check.boundary(1, "the text is empty", () -> {
            BooleanRing x = new BooleanRing();
            Check.due("fault()", x.fault(), 0);
            Check.due("clearText()", x.clearText(), 0);
        });
        Check.boundary(1, "two objects share nothing", () -> {
            BooleanRing x = new BooleanRing();
            BooleanRing y = new BooleanRing();
            x.toggle(0, 1);
            x.type('a');
            Check.due("terms(0) of the other", y.terms(0), 0);
            Check.due("undo() of the other", y.undo(), Rings.IMPOSSIBLE);
            Check.due("clearText() of the other", y.clearText(), 0);
            x.reset(6);
            Check.due("variables() of the other", y.variables(), 4);
        });
    }

    private static void reset() {
        Check.boundary(2, "1 to 6 are allowed, 0 and 7 are not", () -> {
            BooleanRing x = new BooleanRing();
            int before = 4;
            for (int n : new int[] {1, 6, 2, 5, 3, 4}) {
                Check.due("reset(" + n + ")", x.reset(n), before);
                Check.due("reset(0)", x.reset(0), Rings.INVALID);
                Check.due("reset(7)", x.reset(7), Rings.INVALID);
                Check.due("variables()", x.variables(), n);
                before = n;
            }
        });
        Check.boundary(2, "a refused reset changes nothing", () -> {
            BooleanRing x = Rings.with(4, "ab", "c+1");
            x.reset(7);
            x.reset(0);
            Rings.hold("after refused resets", x, "ab", "c+1", "0");
            Check.due("undo()", x.undo(), 1);
            Check.due("clearText()", x.clearText(), 3);
        });
        Check.boundary(2, "the same number starts anew, too", () -> {
            BooleanRing x = Rings.with(4, "ab", "c");
            Check.due("reset(4)", x.reset(4), 4);
            Check.due("terms(0)", x.terms(0), 0);
            Check.due("undo()", x.undo(), Rings.IMPOSSIBLE);
        });
        Check.boundary(2, "all eight registers contain 0 then", () -> {
            BooleanRing x = new BooleanRing();
            x.reset(6);
            for (int r = 0; r < 8; r++) {
                x.toggle(r, 63 - r);
            }
            x.reset(6);
            Rings.hold("after reset", x, "0", "0", "0", "0", "0", "0", "0", "0");
            Check.due("sharedSize()", x.sharedSize(), 0);
        });
    }

    private static void resetKeepsAndForgets() {
        Check.boundary(2, "a full history becomes empty, and takes 6 states again", () -> {
            BooleanRing x = new BooleanRing();
            for (int i = 0; i < 6; i++) {
                x.toggle(0, i);
            }
            x.reset(4);
            Check.due("undo()", x.undo(), Rings.IMPOSSIBLE);
            Check.due("terms(0)", x.terms(0), 0);
            for (int i = 0; i < 7; i++) {
                x.toggle(0, i);
            }
            Check.due("undo()", x.undo(), 5);
        });
        Check.boundary(2, "the text stays, also a full one", () -> {
            BooleanRing x = new BooleanRing();
            Rings.write(x, "abcdef+".repeat(8) + "f+ef");
            Check.due("fault() with 4 variables", x.fault(), 4);
            x.reset(6);
            Check.due("fault() with 6 variables", x.fault(), Rings.NONE);
            x.reset(1);
            Check.due("fault() with 1 variable", x.fault(), 1);
            Check.due("clearText()", x.clearText(), 60);
        });
        Check.boundary(2, "the ranges follow the new number at once", () -> {
            BooleanRing x = new BooleanRing();
            x.reset(6);
            Check.due("toggle(0, 63)", x.toggle(0, 63), 1);
            Check.due("value(0, 63)", x.value(0, 63), 1);
            x.reset(1);
            Check.due("toggle(0, 2)", x.toggle(0, 2), Rings.INVALID);
            Check.due("toggle(0, 1)", x.toggle(0, 1), 1);
            Check.due("value(0, 2)", x.value(0, 2), Rings.INVALID);
            Check.due("zeros(0)", x.zeros(0), 2);
        });
    }

    private static void variables() {
        Check.boundary(3, "each number from 1 to 6", () -> {
            BooleanRing x = new BooleanRing();
            for (int n = 1; n <= 6; n++) {
                x.reset(n);
                Check.due("variables()", x.variables(), n);
            }
        });
        Check.boundary(3, "undo leaves the number", () -> {
            BooleanRing x = new BooleanRing();
            x.reset(6);
            x.toggle(0, 63);
            x.undo();
            Check.due("variables()", x.variables(), 6);
        });
    }

    private static void toggle() {
        Check.boundary(4, "the monomial 0 is 1, the last one has all variables", () -> {
            for (int n = 1; n <= 6; n++) {
                BooleanRing x = new BooleanRing();
                x.reset(n);
                Check.due("toggle(0, 0)", x.toggle(0, 0), 1);
                Rings.holds("toggle(0, 0)", x, 0, "1");
                Check.due("toggle(7, 2^n - 1)", x.toggle(7, (1 << n) - 1), 1);
                Rings.holds("toggle(7, 2^n - 1)", x, 7, "abcdef".substring(0, n));
                Check.due("toggle(7, 2^n)", x.toggle(7, 1 << n), Rings.INVALID);
                Rings.holds("after a refused toggle", x, 7, "abcdef".substring(0, n));
            }
        });
        Check.boundary(4, "the only term is a term no more", () -> {
            BooleanRing x = Rings.with(4, "ab");
            Check.due("toggle(0, 3)", x.toggle(0, 3), 0);
            Rings.holds("toggle(0, 3)", x, 0, "0");
        });
        Check.boundary(4, "all 64 monomials, and away again", () -> {
            BooleanRing x = new BooleanRing();
            x.reset(6);
            for (int m = 0; m < 64; m++) {
                Check.due("toggle(0, " + m + ")", x.toggle(0, m), m + 1);
            }
            for (int m = 63; m >= 0; m--) {
                Check.due("toggle(0, " + m + ")", x.toggle(0, m), m);
            }
        });
        Check.boundary(4, "the other registers stay", () -> {
            BooleanRing x = new BooleanRing();
            x.toggle(3, 5);
            Rings.hold("toggle(3, 5)", x, "0", "0", "0", "ac", "0", "0", "0", "0");
        });
    }

    private static void copy() {
        Check.boundary(5, "of 0, and of all monomials", () -> {
            BooleanRing x = Rings.withAllMonomials(6);
            Check.due("copy(0, 7)", x.copy(0, 7), 64);
            Check.due("copy(1, 7)", x.copy(1, 7), 0);
            Check.due("copy(0, 1)", x.copy(0, 1), 64);
            Check.due("isSame(0, 1)", x.isSame(0, 1), 1);
        });
        Check.boundary(5, "into itself: nothing becomes different, and it is a change", () -> {
            BooleanRing x = Rings.with(4, "ab+c");
            Check.due("copy(0, 0)", x.copy(0, 0), 2);
            Rings.holds("copy(0, 0)", x, 0, "ab+c");
            Check.due("undo()", x.undo(), 1);
            Rings.holds("undo()", x, 0, "ab+c");
        });
        Check.boundary(5, "the first and the last register, in the right direction", () -> {
            BooleanRing x = Rings.with(4, "ab");
            x.toggle(7, 4);
            Check.due("copy(7, 0)", x.copy(7, 0), 1);
            Rings.holds("copy(7, 0)", x, 0, "c");
            Rings.holds("copy(7, 0)", x, 7, "c");
            x.toggle(7, 0);
            Rings.holds("a later change of the other", x, 0, "c");
        });
    }

    private static void sum() {
        Check.boundary(6, "a register and itself make 0", () -> {
            BooleanRing x = Rings.with(4, "ab+c+1");
            Check.due("sum(0, 0, 1)", x.sum(0, 0, 1), 0);
            Check.due("sum(0, 0, 0)", x.sum(0, 0, 0), 0);
            Rings.holds("sum(0, 0, 0)", x, 0, "0");
        });
        Check.boundary(6, "with 0", () -> {
            BooleanRing x = Rings.with(4, "ab+c+1");
            Check.due("sum(0, 7, 1)", x.sum(0, 7, 1), 3);
            Check.due("sum(7, 0, 2)", x.sum(7, 0, 2), 3);
            Check.due("sum(6, 7, 5)", x.sum(6, 7, 5), 0);
            Rings.hold("sum with 0", x, "ab+c+1", "ab+c+1", "ab+c+1");
        });
        Check.boundary(6, "into one of the two", () -> {
            BooleanRing x = Rings.with(4, "ab+c", "c+d");
            Check.due("sum(0, 1, 0)", x.sum(0, 1, 0), 2);
            Rings.hold("sum(0, 1, 0)", x, "ab+d", "c+d");
            Check.due("sum(0, 1, 1)", x.sum(0, 1, 1), 2);
            Rings.hold("sum(0, 1, 1)", x, "ab+d", "ab+c");
        });
        Check.boundary(6, "all 64 monomials and one of them", () -> {
            BooleanRing x = Rings.withAllMonomials(6);
            x.toggle(1, 63);
            Check.due("sum(0, 1, 2)", x.sum(0, 1, 2), 63);
            Check.due("sum(1, 2, 3)", x.sum(1, 2, 3), 64);
        });
    }

    private static void product() {
        Check.boundary(7, "by 0 and by 1", () -> {
            BooleanRing x = Rings.with(4, "ab+c", "1");
            Check.due("product(0, 7, 2)", x.product(0, 7, 2), 0);
            Check.due("product(7, 0, 2)", x.product(7, 0, 2), 0);
            Check.due("product(0, 1, 2)", x.product(0, 1, 2), 2);
            Check.due("product(1, 0, 3)", x.product(1, 0, 3), 2);
            Rings.hold("product by 1", x, "ab+c", "1", "ab+c", "ab+c");
        });
        Check.boundary(7, "a register and itself: the union of a monomial with itself is itself", () -> {
            BooleanRing x = Rings.with(4, "ab+c+1");
            Check.due("product(0, 0, 1)", x.product(0, 0, 1), 3);
            Check.due("product(0, 0, 0)", x.product(0, 0, 0), 3);
            Rings.hold("product", x, "ab+c+1", "ab+c+1");
        });
        Check.boundary(7, "all products vanish in pairs", () -> {
            BooleanRing x = Rings.with(4, "ab+c", "ab+c+1");
            Check.due("product(0, 1, 2)", x.product(0, 1, 2), 0);
        });
        Check.boundary(7, "into one of the two", () -> {
            BooleanRing x = Rings.with(4, "a+b", "c+1", "a+b");
            Check.due("product(0, 1, 0)", x.product(0, 1, 0), 4);
            Rings.hold("product(0, 1, 0)", x, "ac+a+bc+b", "c+1");
            Check.due("product(2, 1, 1)", x.product(2, 1, 1), 4);
            Rings.holds("product(2, 1, 1)", x, 1, "ac+a+bc+b");
        });
        Check.boundary(7, "all 64 monomials", () -> {
            BooleanRing x = Rings.withAllMonomials(6);
            Check.due("product(0, 0, 1)", x.product(0, 0, 1), 64);
            x.toggle(2, 63);
            Check.due("product(0, 2, 3)", x.product(0, 2, 3), 0);
            x.toggle(0, 0);
            Check.due("product(0, 2, 3)", x.product(0, 2, 3), 1);
            Rings.holds("an odd number of terms by abcdef", x, 3, "abcdef");
        });
        Check.boundary(7, "all pairs of monomials of 3 variables", () -> {
            for (int m = 0; m < 8; m++) {
                for (int k = 0; k < 8; k++) {
                    BooleanRing x = new BooleanRing();
                    x.reset(3);
                    x.toggle(0, m);
                    x.toggle(1, k);
                    Check.due("product of " + m + " and " + k, x.product(0, 1, 2), 1);
                    Check.due("term of " + m + " times " + k, x.termAt(2, 0, 0), m | k);
                }
            }
        });
    }

    private static void times() {
        Check.boundary(8, "by the monomial 0, which is 1", () -> {
            BooleanRing x = Rings.with(4, "ab+c+1");
            Check.due("times(0, 0, 1)", x.times(0, 0, 1), 3);
            Rings.holds("times(0, 0, 1)", x, 1, "ab+c+1");
        });
        Check.boundary(8, "by the last monomial: all terms become the same one", () -> {
            for (int n = 1; n <= 6; n++) {
                BooleanRing x = Rings.withAllMonomials(n);
                Check.due("times of 2^n terms", x.times(0, (1 << n) - 1, 1), 0);
                x.toggle(0, 0);
                Check.due("times of 2^n - 1 terms", x.times(0, (1 << n) - 1, 1), 1);
                Check.due("the term", x.termAt(1, 0, 0), (1 << n) - 1);
            }
        });
        Check.boundary(8, "of 0", () -> Check.due("times(0, 15, 1)", new BooleanRing().times(0, 15, 1), 0));
        Check.boundary(8, "into itself", () -> {
            BooleanRing x = Rings.with(4, "ab+c+1");
            Check.due("times(0, 8, 0)", x.times(0, 8, 0), 3);
            Rings.holds("times(0, 8, 0)", x, 0, "abd+cd+d");
        });
    }

    private static void restrict() {
        Check.boundary(9, "the values 0 and 1, and neither -1 nor 2", () -> {
            BooleanRing x = Rings.with(4, "ab+c");
            Check.due("value 0", x.restrict(0, 0, 0, 1), 1);
            Check.due("value 1", x.restrict(0, 0, 1, 2), 2);
            Check.due("value 2", x.restrict(0, 0, 2, 1), Rings.INVALID);
            Check.due("value -1", x.restrict(0, 0, -1, 2), Rings.INVALID);
            Rings.hold("restrict", x, "ab+c", "c", "b+c");
        });
        Check.boundary(9, "all terms vanish", () -> {
            BooleanRing x = Rings.with(4, "ab+a");
            Check.due("restrict(0, 0, 0, 1)", x.restrict(0, 0, 0, 1), 0);
        });
        Check.boundary(9, "what remains is the same twice", () -> {
            BooleanRing x = Rings.with(4, "ab+b");
            Check.due("restrict(0, 0, 1, 1)", x.restrict(0, 0, 1, 1), 0);
            Check.due("restrict(0, 0, 0, 1)", x.restrict(0, 0, 0, 1), 1);
        });
        Check.boundary(9, "a variable that does not occur, and constants", () -> {
            BooleanRing x = Rings.with(4, "ab+c", "1");
            for (int value = 0; value < 2; value++) {
                Check.due("d", x.restrict(0, 3, value, 2), 2);
                Check.due("in 1", x.restrict(1, 0, value, 3), 1);
                Check.due("in 0", x.restrict(7, 0, value, 4), 0);
            }
            Rings.hold("restrict", x, "ab+c", "1", "ab+c", "1", "0");
        });
        Check.boundary(9, "the first and the last variable, in place", () -> {
            for (int n = 1; n <= 6; n++) {
                for (int k : new int[] {0, n - 1}) {
                    BooleanRing x = Rings.withAllMonomials(n);
                    Check.due("value 0", x.restrict(0, k, 0, 1), 1 << (n - 1));
                    Check.due("variables that are left", x.occurring(1), (1 << n) - 1 - (1 << k));
                    Check.due("value 1", x.restrict(0, k, 1, 0), 0);
                    Check.due("in place", x.terms(0), 0);
                    Check.due("one more", x.restrict(0, n, 0, 1), Rings.INVALID);
                }
            }
        });
    }

    private static void substitute() {
        Check.boundary(10, "by 0 and by 1, like restrict", () -> {
            BooleanRing x = Rings.with(4, "ab+c", "1");
            Check.due("by 0", x.substitute(0, 0, 7, 2), 1);
            Check.due("by 1", x.substitute(0, 0, 1, 3), 2);
            Rings.hold("substitute", x, "ab+c", "1", "c", "b+c");
        });
        Check.boundary(10, "by the variable itself", () -> {
            BooleanRing x = Rings.with(4, "ab+c", "a");
            Check.due("substitute(0, 0, 1, 2)", x.substitute(0, 0, 1, 2), 2);
            Rings.holds("substitute", x, 2, "ab+c");
        });
        Check.boundary(10, "by what contains the variable: it is replaced once", () -> {
            BooleanRing x = Rings.with(4, "ab+a", "ad+c+1");
            Check.due("substitute(0, 0, 1, 2)", x.substitute(0, 0, 1, 2), 6);
            Rings.holds("substitute", x, 2, "abd+ad+bc+b+c+1");
        });
        Check.boundary(10, "a variable that does not occur, and constants", () -> {
            BooleanRing x = Rings.with(4, "ab+c", "1");
            Check.due("d in ab+c", x.substitute(0, 3, 1, 2), 2);
            Check.due("a in 1", x.substitute(1, 0, 0, 3), 1);
            Check.due("a in 0", x.substitute(7, 0, 0, 4), 0);
            Rings.hold("substitute", x, "ab+c", "1", "ab+c", "1", "0");
        });
        Check.boundary(10, "the last variable", () -> {
            BooleanRing x = Rings.with(6, "abcdef+f", "e+1");
            Check.due("substitute(0, 5, 1, 2)", x.substitute(0, 5, 1, 2), 2);
            Rings.holds("substitute", x, 2, "e+1");
            Check.due("substitute(0, 6, 1, 2)", x.substitute(0, 6, 1, 2), Rings.INVALID);
        });
        Check.boundary(10, "terms that become the same vanish", () -> {
            BooleanRing x = Rings.with(4, "ac+bc", "b");
            Check.due("substitute(0, 0, 1, 2)", x.substitute(0, 0, 1, 2), 0);
        });
    }

    private static void substituteInPlace() {
        Check.boundary(10, "by itself", () -> {
            BooleanRing x = Rings.with(4, "ab+c");
            Check.due("substitute(0, 0, 0, 0)", x.substitute(0, 0, 0, 0), 3);
            Rings.holds("substitute", x, 0, "ab+bc+c");
        });
        Check.boundary(10, "into the register that is changed", () -> {
            BooleanRing x = Rings.with(4, "ab+c", "d+1");
            Check.due("substitute(0, 0, 1, 0)", x.substitute(0, 0, 1, 0), 3);
            Rings.hold("substitute", x, "bd+b+c", "d+1");
        });
        Check.boundary(10, "into the register that is put in", () -> {
            BooleanRing x = Rings.with(4, "ab+c", "d+1");
            Check.due("substitute(0, 0, 1, 1)", x.substitute(0, 0, 1, 1), 3);
            Rings.hold("substitute", x, "ab+c", "bd+b+c");
        });
    }

    private static void derivative() {
        Check.boundary(11, "of constants, and by a variable that does not occur", () -> {
            BooleanRing x = Rings.with(4, "1", "ab+c");
            Check.due("of 1", x.derivative(0, 0, 2), 0);
            Check.due("of 0", x.derivative(7, 0, 2), 0);
            Check.due("by d", x.derivative(1, 3, 2), 0);
        });
        Check.boundary(11, "of the variable itself", () -> {
            for (int n = 1; n <= 6; n++) {
                BooleanRing x = new BooleanRing();
                x.reset(n);
                x.toggle(0, 1 << (n - 1));
                Check.due("derivative(0, n - 1, 1)", x.derivative(0, n - 1, 1), 1);
                Rings.holds("derivative(0, n - 1, 1)", x, 1, "1");
                Check.due("derivative(0, n, 1)", x.derivative(0, n, 1), Rings.INVALID);
                Rings.holds("after a refused call", x, 1, "1");
            }
        });
        Check.boundary(11, "twice by one variable", () -> {
            BooleanRing x = Rings.with(4, "ab+ac+d");
            Check.due("once", x.derivative(0, 0, 0), 2);
            Rings.holds("once, in place", x, 0, "b+c");
            Check.due("twice", x.derivative(0, 0, 0), 0);
        });
        Check.boundary(11, "of all 64 monomials", () -> {
            BooleanRing x = Rings.withAllMonomials(6);
            Check.due("by a", x.derivative(0, 0, 1), 32);
            Check.due("by f", x.derivative(0, 5, 2), 32);
            Check.due("without a", x.occurring(1), 62);
            Check.due("without f", x.occurring(2), 31);
        });
        Check.boundary(11, "it is the sum of the results of restrict with 0 and with 1", () -> {
            BooleanRing x = Rings.with(4, "abc+ab+bd+c+1");
            for (int k = 0; k < 4; k++) {
                x.restrict(0, k, 0, 1);
                x.restrict(0, k, 1, 2);
                x.sum(1, 2, 3);
                Check.due("derivative", x.derivative(0, k, 4), x.terms(3));
                Check.due("isSame(3, 4)", x.isSame(3, 4), 1);
            }
        });
    }

    private static void flip() {
        Check.boundary(12, "the first point: all monomials become terms", () -> {
            for (int n = 1; n <= 6; n++) {
                BooleanRing x = Rings.withAllMonomials(n);
                Check.due("flip(1, 0)", x.flip(1, 0), 1 << n);
                Check.due("isSame(0, 1)", x.isSame(0, 1), 1);
                Check.due("zeros(2)", x.zeros(2), (1 << n) - 1);
                Check.due("value(1, 0)", x.value(1, 0), 1);
            }
        });
        Check.boundary(12, "the last point: one monomial becomes a term", () -> {
            for (int n = 1; n <= 6; n++) {
                BooleanRing x = new BooleanRing();
                x.reset(n);
                Check.due("flip(0, 2^n - 1)", x.flip(0, (1 << n) - 1), 1);
                Check.due("has(0, 2^n - 1)", x.has(0, (1 << n) - 1), 1);
                Check.due("flip(0, 2^n)", x.flip(0, 1 << n), Rings.INVALID);
                Check.due("terms(0)", x.terms(0), 1);
            }
        });
        Check.boundary(12, "twice at one point", () -> {
            BooleanRing x = Rings.with(4, "ab+c");
            x.flip(0, 5);
            Check.due("flip(0, 5)", x.flip(0, 5), 2);
            Rings.holds("flip twice", x, 0, "ab+c");
        });
        Check.boundary(12, "at all points: 0 becomes 1", () -> {
            BooleanRing x = new BooleanRing();
            x.reset(6);
            for (int point = 0; point < 64; point++) {
                x.flip(7, point);
            }
            Rings.holds("flip at all points", x, 7, "1");
        });
        Check.boundary(12, "no other values", () -> {
            for (int point : new int[] {0, 1, 31, 32, 62, 63}) {
                BooleanRing x = Rings.with(6, "abc+df+e+1");
                x.copy(0, 1);
                x.flip(1, point);
                for (int other = 0; other < 64; other++) {
                    int differs = x.value(0, other) ^ x.value(1, other);
                    Check.due("at " + other + " after flip at " + point, differs, other == point ? 1 : 0);
                }
            }
        });
    }

    private static void exchange() {
        Check.boundary(13, "a variable with itself", () -> {
            BooleanRing x = Rings.with(4, "ab+c");
            for (int k = 0; k < 4; k++) {
                Check.due("exchange(0, k, k)", x.exchange(0, k, k), 2);
            }
            Rings.holds("exchange", x, 0, "ab+c");
            Check.due("each is a change", x.undo(), 4);
        });
        Check.boundary(13, "both ways round", () -> {
            for (int low = 0; low < 6; low++) {
                for (int high = low + 1; high < 6; high++) {
                    BooleanRing x = Rings.with(6, "abcf+bd+cde+e+1", "abcf+bd+cde+e+1");
                    Check.due("low, high", x.exchange(0, low, high), 5);
                    Check.due("high, low", x.exchange(1, high, low), 5);
                    Check.due("isSame(0, 1)", x.isSame(0, 1), 1);
                    x.exchange(0, low, high);
                    Rings.holds("twice", x, 0, "abcf+bd+cde+e+1");
                }
            }
        });
        Check.boundary(13, "the first with the last variable", () -> {
            BooleanRing x = Rings.with(6, "ab+af+cf+a+d");
            Check.due("exchange(0, 0, 5)", x.exchange(0, 0, 5), 5);
            Rings.holds("exchange", x, 0, "ac+af+bf+d+f");
            Check.due("exchange(0, 0, 6)", x.exchange(0, 0, 6), Rings.INVALID);
            Check.due("exchange(0, 6, 0)", x.exchange(0, 6, 0), Rings.INVALID);
        });
        Check.boundary(13, "of constants, and of all 64 monomials", () -> {
            BooleanRing x = Rings.withAllMonomials(6);
            x.toggle(1, 0);
            Check.due("of 1", x.exchange(1, 0, 1), 1);
            Rings.holds("of 1", x, 1, "1");
            Check.due("of 0", x.exchange(7, 0, 1), 0);
            Check.due("of all", x.exchange(0, 2, 5), 64);
        });
    }

    private static void undo() {
        Check.boundary(14, "an empty history", () -> {
            BooleanRing x = new BooleanRing();
            Check.due("undo()", x.undo(), Rings.IMPOSSIBLE);
            x.toggle(0, 3);
            Check.due("undo()", x.undo(), 0);
            Check.due("undo()", x.undo(), Rings.IMPOSSIBLE);
            Rings.holds("after a refused undo", x, 0, "0");
        });
        for (int changes = 1; changes <= 8; changes++) {
            int made = changes;
            Check.boundary(14, "after " + made + " changes, of which the history keeps at most 6", () -> {
                BooleanRing x = new BooleanRing();
                for (int i = 0; i < made; i++) {
                    x.toggle(0, i);
                }
                int states = Math.min(made, 6);
                for (int back = 1; back <= states; back++) {
                    Check.due("undo()", x.undo(), states - back);
                    Check.due("terms(0)", x.terms(0), made - back);
                }
                Check.due("one more undo()", x.undo(), Rings.IMPOSSIBLE);
                Check.due("terms(0)", x.terms(0), made - states);
            });
        }
    }

    private static void undoAndTheRest() {
        Check.boundary(14, "a change after undo takes the place again", () -> {
            BooleanRing x = new BooleanRing();
            for (int i = 0; i < 6; i++) {
                x.toggle(0, i);
            }
            Check.due("undo()", x.undo(), 5);
            Check.due("undo()", x.undo(), 4);
            x.toggle(0, 9);
            Check.due("undo()", x.undo(), 4);
            Check.due("terms(0)", x.terms(0), 4);
            Check.due("has(0, 3)", x.has(0, 3), 1);
            Check.due("has(0, 9)", x.has(0, 9), 0);
        });
        Check.boundary(14, "undo is not recorded itself", () -> {
            BooleanRing x = Rings.with(4, "a", "b", "c");
            Check.due("undo()", x.undo(), 2);
            Check.due("undo()", x.undo(), 1);
            Rings.hold("two steps back", x, "a", "0", "0");
        });
        Check.boundary(14, "all eight registers come back at once", () -> {
            BooleanRing x = new BooleanRing();
            for (int r = 0; r < 8; r++) {
                x.toggle(r, r + 1);
            }
            x.echelon(255, 0);
            Check.due("undo()", x.undo(), 5);
            for (int r = 0; r < 8; r++) {
                Check.due("terms(" + r + ")", x.terms(r), 1);
                Check.due("has(" + r + ", " + (r + 1) + ")", x.has(r, r + 1), 1);
            }
        });
        Check.boundary(14, "the text stays", () -> {
            BooleanRing x = Rings.with(4, "ab+c");
            Rings.write(x, "d");
            x.undo();
            Check.due("read(0)", x.read(0), 1);
            Rings.holds("read(0)", x, 0, "d");
        });
    }
}
