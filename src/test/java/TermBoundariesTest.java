/** The boundary cases of promises 15 to 23, each under its own name. The ranges of arguments are in RangesTest. */
public final class TermBoundariesTest {
    private TermBoundariesTest() {
    }

    public static void main(String[] args) {
        has();
        terms();
        degree();
        occurring();
        size();
        sharedSize();
        largestSharedSize();
        termAt();
        ties();
        value();
        isSame();
        Check.everyPromiseHasACase(15, 23);
        Check.end("TermBoundariesTest");
    }

    private static void has() {
        Check.boundary(15, "the first and the last monomial", () -> {
            for (int n = 1; n <= 6; n++) {
                int last = (1 << n) - 1;
                BooleanRing x = new BooleanRing();
                x.reset(n);
                x.toggle(0, 0);
                x.toggle(7, last);
                Check.due("has(0, 0)", x.has(0, 0), 1);
                Check.due("has(0, 2^n - 1)", x.has(0, last), 0);
                Check.due("has(7, 0)", x.has(7, 0), 0);
                Check.due("has(7, 2^n - 1)", x.has(7, last), 1);
                Check.due("has(7, 2^n)", x.has(7, last + 1), Rings.INVALID);
            }
        });
        Check.boundary(15, "no monomial is a term of 0, each one is a term of all", () -> {
            BooleanRing x = Rings.withAllMonomials(6);
            for (int m = 0; m < 64; m++) {
                Check.due("has(0, " + m + ")", x.has(0, m), 1);
                Check.due("has(1, " + m + ")", x.has(1, m), 0);
            }
        });
        Check.boundary(15, "a part of a term is no term", () -> {
            BooleanRing x = Rings.with(4, "abc");
            Check.due("ab", x.has(0, 3), 0);
            Check.due("1", x.has(0, 0), 0);
            Check.due("abcd", x.has(0, 15), 0);
        });
    }

    private static void terms() {
        Check.boundary(16, "0, 1 and all monomials", () -> {
            for (int n = 1; n <= 6; n++) {
                BooleanRing x = Rings.withAllMonomials(n);
                x.toggle(7, 0);
                Check.due("of all", x.terms(0), 1 << n);
                Check.due("of 1", x.terms(7), 1);
                Check.due("of 0", x.terms(1), 0);
            }
        });
    }

    private static void degree() {
        Check.boundary(17, "0 has none", () -> {
            BooleanRing x = new BooleanRing();
            for (int r = 0; r < 8; r++) {
                Check.due("degree(" + r + ")", x.degree(r), Rings.NONE);
            }
            Check.due("degree(8)", x.degree(8), Rings.INVALID);
            Check.due("degree(-1)", x.degree(-1), Rings.INVALID);
        });
        Check.boundary(17, "that of 1 is 0", () -> Check.due("degree(0)", Rings.with(4, "1").degree(0), 0));
        Check.boundary(17, "that of all variables is their number", () -> {
            for (int n = 1; n <= 6; n++) {
                Check.due("degree(0)", Rings.withAllMonomials(n).degree(0), n);
            }
        });
        Check.boundary(17, "it is not that of the leading monomial by lex", () -> {
            BooleanRing x = Rings.with(6, "a+bcdef", "a+f+1", "f+de");
            Check.due("a+bcdef", x.degree(0), 5);
            Check.due("a+f+1", x.degree(1), 1);
            Check.due("f+de", x.degree(2), 2);
        });
    }

    private static void occurring() {
        Check.boundary(18, "none in constants", () -> {
            BooleanRing x = Rings.with(4, "1");
            Check.due("in 1", x.occurring(0), 0);
            Check.due("in 0", x.occurring(1), 0);
        });
        Check.boundary(18, "each single one, and all", () -> {
            for (int n = 1; n <= 6; n++) {
                BooleanRing x = Rings.withAllMonomials(n);
                Check.due("all", x.occurring(0), (1 << n) - 1);
                for (int k = 0; k < n; k++) {
                    x.toggle(1, 1 << k);
                    Check.due("one", x.occurring(1), 1 << k);
                    x.toggle(1, 1 << k);
                }
            }
        });
        Check.boundary(18, "a variable whose last term vanishes occurs no more", () -> {
            BooleanRing x = Rings.with(4, "ab+a");
            x.toggle(0, 3);
            Check.due("occurring(0)", x.occurring(0), 1);
        });
    }

    private static void size() {
        Check.boundary(19, "constants contain no variable", () -> {
            BooleanRing x = Rings.with(4, "1");
            Check.due("of 1", x.size(0), 0);
            Check.due("of 0", x.size(1), 0);
        });
        Check.boundary(19, "one variable: the halves are constants", () -> {
            for (int n = 1; n <= 6; n++) {
                BooleanRing x = new BooleanRing();
                x.reset(n);
                x.toggle(0, 1 << (n - 1));
                Check.due("v", x.size(0), 1);
                x.toggle(0, 0);
                Check.due("v + 1", x.size(0), 1);
            }
        });
        Check.boundary(19, "both halves are the same polynomial, which is counted once", () -> {
            Check.due("ab+b", Rings.with(4, "ab+b").size(0), 2);
            for (int n = 1; n <= 6; n++) {
                Check.due("all monomials", Rings.withAllMonomials(n).size(0), n);
            }
        });
        Check.boundary(19, "a half that comes again further below is counted once", () -> {
            // Of abc+c: itself, bc, c (also the half of bc).
            Check.due("abc+c", Rings.with(4, "abc+c").size(0), 3);
        });
        Check.boundary(19, "halves are by the lowest variable", () -> {
            // Of ab+ac+bd: itself, b+c, bd, c, d. By the highest variable there would be others.
            Check.due("ab+ac+bd", Rings.with(4, "ab+ac+bd").size(0), 5);
            // Of ad+bd+cd: itself, bd+cd, cd, d.
            Check.due("ad+bd+cd", Rings.with(4, "ad+bd+cd").size(0), 4);
            // Of ad+ae+af+b: itself, d+e+f, e+f, f, b.
            Check.due("ad+ae+af+b", Rings.with(6, "ad+ae+af+b").size(0), 5);
        });
        Check.boundary(19, "the largest size: 1 + 2 + 4 + 8 + 12 + 2", () -> {
            BooleanRing x = new BooleanRing();
            x.reset(6);
            for (int m = 0; m < 16; m++) {
                addCoefficient(x, 0, m, m);
            }
            Check.due("size(0)", x.size(0), 29);
        });
    }

    /** Adds m, a monomial in a to d, times the polynomial in e and f that is given by four bits. */
    private static void addCoefficient(BooleanRing x, int register, int m, int bits) {
        for (int j = 0; j < 4; j++) {
            if ((bits >> j & 1) == 1) {
                x.toggle(register, m | j << 4);
            }
        }
    }

    private static void sharedSize() {
        Check.boundary(20, "constants alone", () -> {
            BooleanRing x = new BooleanRing();
            Check.due("all registers contain 0", x.sharedSize(), 0);
            for (int r = 0; r < 8; r++) {
                x.toggle(r, 0);
            }
            Check.due("all registers contain 1", x.sharedSize(), 0);
        });
        Check.boundary(20, "the first and the last register count", () -> {
            BooleanRing x = new BooleanRing();
            x.toggle(0, 1);
            Check.due("a in 0", x.sharedSize(), 1);
            x.toggle(7, 2);
            Check.due("b in 7", x.sharedSize(), 2);
        });
        Check.boundary(20, "the same in all eight registers", () -> {
            BooleanRing x = Rings.with(4, "ab+c+1");
            for (int r = 1; r < 8; r++) {
                x.copy(0, r);
            }
            Check.due("sharedSize()", x.sharedSize(), 3);
            Check.due("size(7)", x.size(7), 3);
        });
        Check.boundary(20, "a register that is a half of another one", () -> {
            BooleanRing x = Rings.with(4, "ab+c", "b");
            Check.due("sharedSize()", x.sharedSize(), 3);
            Rings.put(x, 1, "b+1");
            Check.due("b + 1 is no half", x.sharedSize(), 4);
        });
        Check.boundary(20, "it counts what is in the registers now", () -> {
            BooleanRing x = Rings.with(4, "abcd");
            Check.due("abcd", x.sharedSize(), 4);
            x.copy(1, 0);
            Check.due("0", x.sharedSize(), 0);
            x.undo();
            Check.due("abcd again", x.sharedSize(), 4);
        });
    }

    private static void largestSharedSize() {
        Check.boundary(20, "the largest one: 8 + 16 + 32 + 64 + 12 + 2", () -> {
            BooleanRing x = new BooleanRing();
            x.reset(6);
            for (int i = 0; i < 64; i++) {
                // Each pair of coefficients, without d and with d, comes once.
                addCoefficient(x, i / 8, i % 8, i % 16);
                addCoefficient(x, i / 8, i % 8 + 8, 1 + i / 16);
            }
            Check.due("sharedSize()", x.sharedSize(), 134);
            Check.due("again", x.sharedSize(), 134);
        });
    }

    private static void termAt() {
        Check.boundary(21, "the first and the last index, and one more", () -> {
            for (int n = 1; n <= 6; n++) {
                BooleanRing x = Rings.withAllMonomials(n);
                for (int order = 0; order < 3; order++) {
                    Check.due("index 0", x.termAt(0, order, 0), (1 << n) - 1);
                    Check.due("index 2^n - 1", x.termAt(0, order, (1 << n) - 1), 0);
                    Check.due("index 2^n", x.termAt(0, order, 1 << n), Rings.NONE);
                    Check.due("the greatest index", x.termAt(0, order, Integer.MAX_VALUE), Rings.NONE);
                    Check.due("index -1", x.termAt(0, order, -1), Rings.INVALID);
                    Check.due("the least index", x.termAt(0, order, Integer.MIN_VALUE), Rings.INVALID);
                }
            }
        });
        Check.boundary(21, "0 has no terms", () -> {
            BooleanRing x = new BooleanRing();
            for (int order = 0; order < 3; order++) {
                Check.due("index 0", x.termAt(0, order, 0), Rings.NONE);
                Check.due("index -1", x.termAt(0, order, -1), Rings.INVALID);
            }
            Check.due("order 3", x.termAt(0, 3, 0), Rings.INVALID);
            Check.due("order -1", x.termAt(0, -1, 0), Rings.INVALID);
        });
        Check.boundary(21, "one term", () -> {
            BooleanRing x = Rings.with(4, "1", "d");
            for (int order = 0; order < 3; order++) {
                Check.due("1", x.termAt(0, order, 0), 0);
                Check.due("behind 1", x.termAt(0, order, 1), Rings.NONE);
                Check.due("d", x.termAt(1, order, 0), 8);
                Check.due("behind d", x.termAt(1, order, 1), Rings.NONE);
            }
        });
    }

    private static void greater(int order, String texts, String greater) {
        BooleanRing x = Rings.with(6, texts, greater);
        Check.due("order " + order + ", " + texts, x.termAt(0, order, 0), x.termAt(1, 0, 0));
    }

    private static void ties() {
        Check.boundary(21, "lex: the lowest variable alone decides", () -> {
            greater(0, "a+bcdef", "a");
            greater(0, "e+f", "e");
            greater(0, "f+1", "f");
            greater(0, "ab+ac", "ab");
            greater(0, "ab+abf", "abf");
            greater(0, "abf+acdef", "abf");
        });
        Check.boundary(21, "graded: the degree decides before", () -> {
            greater(1, "a+ef", "ef");
            greater(1, "abcde+bcdef", "abcde");
            greater(1, "f+1", "f");
        });
        Check.boundary(21, "graded: with equal degrees as in lex", () -> {
            greater(1, "ad+bc", "ad");
            greater(1, "af+bc", "af");
            greater(1, "abf+acd", "abf");
            greater(1, "e+f", "e");
        });
        Check.boundary(21, "reverse: the degree decides before", () -> {
            greater(2, "a+ef", "ef");
            greater(2, "f+1", "f");
            greater(2, "abc+cdef", "cdef");
        });
        Check.boundary(21, "reverse: with equal degrees the one without the highest variable", () -> {
            greater(2, "ad+bc", "bc");
            greater(2, "af+de", "de");
            greater(2, "abf+acd", "acd");
            greater(2, "af+bf", "af");
            greater(2, "e+f", "e");
        });
    }

    private static void value() {
        Check.boundary(22, "the first point: only the term 1 counts", () -> {
            BooleanRing x = Rings.with(4, "a+b+c+d+abcd", "ab+1");
            Check.due("without 1", x.value(0, 0), 0);
            Check.due("with 1", x.value(1, 0), 1);
        });
        Check.boundary(22, "the last point: all terms count, modulo 2", () -> {
            for (int n = 1; n <= 6; n++) {
                BooleanRing x = Rings.withAllMonomials(n);
                int last = (1 << n) - 1;
                Check.due("2^n terms", x.value(0, last), 0);
                x.toggle(0, last);
                Check.due("2^n - 1 terms", x.value(0, last), 1);
                Check.due("2^n", x.value(0, last + 1), Rings.INVALID);
            }
        });
        Check.boundary(22, "constants", () -> {
            BooleanRing x = Rings.with(6, "0", "1");
            for (int point = 0; point < 64; point++) {
                Check.due("0 at " + point, x.value(0, point), 0);
                Check.due("1 at " + point, x.value(1, point), 1);
            }
        });
        Check.boundary(22, "a monomial needs all of its variables", () -> {
            BooleanRing x = Rings.with(4, "acd");
            for (int point = 0; point < 16; point++) {
                Check.due("acd at " + point, x.value(0, point), point == 13 || point == 15 ? 1 : 0);
            }
        });
    }

    private static void isSame() {
        Check.boundary(23, "a register and itself", () -> {
            BooleanRing x = Rings.with(4, "ab");
            Check.due("isSame(0, 0)", x.isSame(0, 0), 1);
            Check.due("isSame(7, 7)", x.isSame(7, 7), 1);
        });
        Check.boundary(23, "0 and 0, 0 and 1", () -> {
            BooleanRing x = Rings.with(4, "1", "1");
            Check.due("0 and 0", x.isSame(6, 7), 1);
            Check.due("0 and 1", x.isSame(7, 0), 0);
            Check.due("1 and 1", x.isSame(0, 1), 1);
        });
        Check.boundary(23, "one term makes the difference", () -> {
            BooleanRing x = Rings.withAllMonomials(6);
            x.copy(0, 7);
            Check.due("all and all", x.isSame(0, 7), 1);
            x.toggle(7, 63);
            Check.due("without abcdef", x.isSame(0, 7), 0);
            x.toggle(7, 63);
            x.toggle(7, 0);
            Check.due("without 1", x.isSame(7, 0), 0);
        });
        Check.boundary(23, "the same polynomial, made in two ways", () -> {
            BooleanRing x = Rings.with(4, "a+b", "a+b+1", "c");
            x.product(0, 2, 3);
            Rings.put(x, 4, "bc+0+ac+1+1");
            Check.due("isSame(3, 4)", x.isSame(3, 4), 1);
        });
    }
}
