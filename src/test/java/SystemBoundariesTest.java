/** The boundary cases of promises 24 to 33, each under its own name. The ranges of arguments are in RangesTest. */
public final class SystemBoundariesTest {
    private SystemBoundariesTest() {
    }

    public static void main(String[] args) {
        reduceByNothing();
        reduceByOne();
        reduceChooses();
        reduceInPlace();
        reduceByOrders();
        echelonOfFew();
        echelonOfMany();
        echelonByOrders();
        zeros();
        zeroAt();
        combine();
        eliminate();
        eliminateTheOnlyVariable();
        fibres();
        isMember();
        isSameIdeal();
        fixedVariables();
        Check.everyPromiseHasACase(24, 33);
        Check.end("SystemBoundariesTest");
    }

    private static void reduceByNothing() {
        Check.boundary(24, "by no registers: a copy, in 0 steps, and a change", () -> {
            BooleanRing x = Rings.with(4, "ab+c");
            Check.due("reduce(0, 0, 0, 1)", x.reduce(0, 0, 0, 1), 0);
            Rings.hold("reduce", x, "ab+c", "ab+c");
            Check.due("undo()", x.undo(), 1);
            Rings.hold("undo()", x, "ab+c", "0");
        });
        Check.boundary(24, "registers that contain 0 do not matter", () -> {
            BooleanRing x = Rings.with(4, "ab+c+1");
            Check.due("by seven that contain 0", x.reduce(0, 254, 1, 1), 0);
            Rings.holds("reduce", x, 1, "ab+c+1");
            Rings.put(x, 7, "c");
            x.copy(6, 1);
            Check.due("by six that contain 0, and c", x.reduce(0, 254, 1, 5), 1);
            Rings.holds("reduce", x, 5, "ab+1");
        });
        Check.boundary(24, "0 itself", () -> {
            BooleanRing x = Rings.with(4, "1", "a");
            Check.due("reduce(7, 3, 0, 0)", x.reduce(7, 3, 0, 0), 0);
            Rings.holds("reduce", x, 0, "0");
        });
    }

    private static void reduceByOne() {
        Check.boundary(24, "by 1, which each term contains: a step for each term", () -> {
            for (int n = 1; n <= 6; n++) {
                for (int order = 0; order < 3; order++) {
                    BooleanRing x = Rings.withAllMonomials(n);
                    x.toggle(1, 0);
                    Check.due("steps", x.reduce(0, 2, order, 2), 1 << n);
                    Rings.holds("the result", x, 2, "0");
                }
            }
        });
        Check.boundary(24, "1 by 1", () -> {
            BooleanRing x = Rings.with(4, "1");
            Check.due("reduce(0, 1, 2, 0)", x.reduce(0, 1, 2, 0), 1);
            Rings.holds("reduce", x, 0, "0");
        });
        Check.boundary(24, "a term that is the leading monomial, and one that is only a part of it", () -> {
            BooleanRing x = Rings.with(4, "ab+a", "ab");
            Check.due("reduce(0, 2, 0, 2)", x.reduce(0, 2, 0, 2), 1);
            Rings.holds("a does not contain ab", x, 2, "a");
            Rings.put(x, 3, "b+1");
            Check.due("reduce(3, 2, 0, 2)", x.reduce(3, 2, 0, 2), 0);
            Rings.holds("b and 1 do not contain ab", x, 2, "b+1");
        });
        Check.boundary(24, "the variables of a product are joined", () -> {
            BooleanRing x = Rings.with(4, "abc", "ab+c");
            Check.due("reduce(0, 2, 0, 2)", x.reduce(0, 2, 0, 2), 1);
            Rings.holds("abc + c (ab + c)", x, 2, "c");
        });
    }

    private static void reduceChooses() {
        Check.boundary(24, "the greatest term is taken first", () -> {
            BooleanRing x = Rings.with(4, "ac+bc", "a+b", "b+d");
            // From the lowest term on, it would be three steps.
            Check.due("steps", x.reduce(0, 6, 0, 3), 1);
            Rings.holds("reduce", x, 3, "0");
        });
        Check.boundary(24, "a lesser term, if the greatest one contains no leading monomial", () -> {
            BooleanRing x = Rings.with(4, "abc+d", "d+1");
            for (int order = 0; order < 3; order++) {
                Check.due("steps", x.reduce(0, 2, order, 2), 1);
                Rings.holds("reduce", x, 2, "abc+1");
            }
        });
        Check.boundary(24, "of two registers for a term the lower one is taken", () -> {
            BooleanRing x = Rings.with(4, "b+1", "a", "ab", "b+1");
            Check.due("b+1 before a", x.reduce(2, 3, 0, 4), 2);
            Check.due("a before b+1", x.reduce(2, 10, 0, 5), 1);
            Rings.holds("b+1 before a", x, 4, "0");
            Rings.holds("a before b+1", x, 5, "0");
        });
        Check.boundary(24, "the first and the last register of all", () -> {
            BooleanRing x = Rings.with(4, "a+b", "a+c");
            x.copy(0, 7);
            Rings.put(x, 2, "a");
            Check.due("by 0 and 7", x.reduce(2, 129, 0, 3), 1);
            Check.due("by 7", x.reduce(2, 128, 0, 4), 1);
            Check.due("by 1 and 7", x.reduce(2, 130, 0, 5), 1);
            Rings.hold("reduce", x, "a+b", "a+c", "a", "b", "b", "c");
        });
        Check.boundary(24, "a term that comes in by a step is reduced, too", () -> {
            BooleanRing x = Rings.with(6, "a", "a+b", "b+c", "c+d", "d+e", "e+f");
            Check.due("steps", x.reduce(0, 62, 0, 7), 5);
            Rings.holds("reduce", x, 7, "f");
        });
    }

    private static void reduceInPlace() {
        Check.boundary(24, "by itself", () -> {
            BooleanRing x = Rings.with(4, "ab+c");
            Check.due("reduce(0, 1, 0, 1)", x.reduce(0, 1, 0, 1), 1);
            Rings.hold("reduce", x, "ab+c", "0");
            Check.due("reduce(0, 1, 0, 0)", x.reduce(0, 1, 0, 0), 1);
            Rings.hold("reduce", x, "0", "0");
        });
        Check.boundary(24, "by itself and another one: the registers count as they are at the beginning", () -> {
            BooleanRing x = Rings.with(4, "0", "bc+1", "abc+ab+c");
            Check.due("reduce(2, 6, 0, 2)", x.reduce(2, 6, 0, 2), 1);
            Rings.hold("reduce", x, "0", "bc+1", "ab+a+c");
        });
        Check.boundary(24, "into a register of the set", () -> {
            BooleanRing x = Rings.with(4, "ab+ac", "a+1");
            Check.due("reduce(0, 2, 0, 1)", x.reduce(0, 2, 0, 1), 2);
            Rings.hold("reduce", x, "ab+ac", "b+c");
        });
    }

    private static void reduceByOrders() {
        Check.boundary(24, "the order decides what leads", () -> {
            BooleanRing x = Rings.with(4, "abc", "a+bc");
            String[] due = {"bc", "a", "a"};
            for (int order = 0; order < 3; order++) {
                Check.due("order " + order, x.reduce(0, 2, order, 2), 1);
                Rings.holds("order " + order, x, 2, due[order]);
            }
        });
        Check.boundary(24, "graded and reverse differ where degrees are equal", () -> {
            BooleanRing x = Rings.with(4, "ad", "ad+bc");
            int[] steps = {1, 1, 0};
            String[] due = {"bc", "bc", "ad"};
            for (int order = 0; order < 3; order++) {
                Check.due("order " + order, x.reduce(0, 2, order, 2), steps[order]);
                Rings.holds("order " + order, x, 2, due[order]);
            }
        });
    }

    private static void echelonOfFew() {
        Check.boundary(25, "of no registers: 0, and a change", () -> {
            BooleanRing x = Rings.with(4, "b", "a");
            Check.due("echelon(0, 0)", x.echelon(0, 0), 0);
            Rings.hold("echelon(0, 0)", x, "b", "a");
            Check.due("undo()", x.undo(), 2);
        });
        Check.boundary(25, "of registers that contain 0", () -> {
            BooleanRing x = new BooleanRing();
            Check.due("echelon(255, 0)", x.echelon(255, 0), 0);
            Check.due("sharedSize()", x.sharedSize(), 0);
            Check.due("undo()", x.undo(), 0);
        });
        Check.boundary(25, "of one register, the first or the last", () -> {
            BooleanRing x = Rings.with(4, "b+ad+1");
            x.copy(0, 7);
            for (int order = 0; order < 3; order++) {
                Check.due("echelon(1, order)", x.echelon(1, order), 1);
                Check.due("echelon(128, order)", x.echelon(128, order), 1);
            }
            Rings.holds("the first", x, 0, "ad+b+1");
            Rings.holds("the last", x, 7, "ad+b+1");
        });
        Check.boundary(25, "a register that contains 0 lies before", () -> {
            BooleanRing x = Rings.with(4, "0", "a", "0", "b");
            Check.due("echelon(15, 0)", x.echelon(15, 0), 2);
            Rings.hold("echelon(15, 0)", x, "a", "b", "0", "0");
        });
        Check.boundary(25, "a set with gaps; the other registers stay", () -> {
            BooleanRing x = Rings.with(4, "a+b", "b", "c", "a");
            Rings.put(x, 7, "a+b");
            Check.due("echelon(138, 0)", x.echelon(138, 0), 2);
            Rings.hold("echelon(138, 0)", x, "a+b", "a", "c", "b", "0", "0", "0", "0");
        });
    }

    private static void echelonOfMany() {
        Check.boundary(25, "the same in all eight registers", () -> {
            BooleanRing x = Rings.with(4, "ab+c");
            for (int r = 1; r < 8; r++) {
                x.copy(0, r);
            }
            Check.due("echelon(255, 2)", x.echelon(255, 2), 1);
            Rings.hold("echelon(255, 2)", x, "ab+c", "0", "0", "0", "0", "0", "0", "0");
        });
        Check.boundary(25, "none of eight becomes 0", () -> {
            BooleanRing x = Rings.with(6, "1", "f+1", "e+f", "d", "c", "b", "a", "ab");
            Check.due("echelon(255, 0)", x.echelon(255, 0), 8);
            Rings.hold("echelon(255, 0)", x, "ab", "a", "b", "c", "d", "e", "f", "1");
        });
        Check.boundary(25, "one of eight becomes 0", () -> {
            BooleanRing x = Rings.with(6, "1", "f+1", "e+f", "d", "c", "b", "e", "ab");
            Check.due("echelon(255, 0)", x.echelon(255, 0), 7);
            Rings.hold("echelon(255, 0)", x, "ab", "b", "c", "d", "e", "f", "1", "0");
        });
        Check.boundary(25, "a leading monomial is no term of the others, above and below", () -> {
            BooleanRing x = Rings.with(4, "a+b+c", "a+b+d", "a+c+d");
            Check.due("echelon(7, 0)", x.echelon(7, 0), 3);
            Rings.hold("echelon(7, 0)", x, "a", "b+d", "c+d");
        });
        Check.boundary(25, "the greatest monomial and the least one", () -> {
            BooleanRing x = Rings.with(6, "1", "abcdef+1");
            for (int order = 0; order < 3; order++) {
                Check.due("echelon(3, order)", x.echelon(3, order), 2);
                Rings.hold("echelon(3, order)", x, "abcdef", "1");
            }
        });
        Check.boundary(25, "what has the form stays", () -> {
            BooleanRing x = Rings.with(4, "a+d", "b+d", "c");
            Check.due("echelon(7, 0)", x.echelon(7, 0), 3);
            Rings.hold("echelon(7, 0)", x, "a+d", "b+d", "c");
            Check.due("it is a change", x.undo(), 3);
        });
    }

    private static void echelonByOrders() {
        Check.boundary(25, "lex and graded differ by the degree", () -> {
            BooleanRing x = Rings.with(4, "a+bc", "a");
            Check.due("lex", x.echelon(3, 0), 2);
            Rings.hold("lex", x, "a", "bc");
            Check.due("graded", x.echelon(3, 1), 2);
            Rings.hold("graded", x, "bc", "a");
        });
        Check.boundary(25, "graded and reverse differ where degrees are equal", () -> {
            BooleanRing x = Rings.with(4, "ad+bc+c", "bc");
            Check.due("graded", x.echelon(3, 1), 2);
            Rings.hold("graded", x, "ad+c", "bc");
            Check.due("reverse", x.echelon(3, 2), 2);
            Rings.hold("reverse", x, "bc", "ad+c");
        });
    }

    private static void zeros() {
        Check.boundary(26, "of no registers: each point", () -> {
            BooleanRing x = new BooleanRing();
            for (int n = 1; n <= 6; n++) {
                x.reset(n);
                Check.due("zeros(0) with " + n, x.zeros(0), 1 << n);
                for (int r = 0; r < 8; r++) {
                    x.toggle(r, 0);
                }
                Check.due("zeros(0) with " + n + ", all registers contain 1", x.zeros(0), 1 << n);
            }
        });
        Check.boundary(26, "of 0 and of 1", () -> {
            BooleanRing x = new BooleanRing();
            for (int n = 1; n <= 6; n++) {
                x.reset(n);
                Check.due("of 0", x.zeros(255), 1 << n);
                x.toggle(7, 0);
                Check.due("of 1", x.zeros(128), 0);
                Check.due("of 0 and 1", x.zeros(255), 0);
                Check.due("of 0 alone", x.zeros(127), 1 << n);
            }
        });
        Check.boundary(26, "one zero, and all points but one", () -> {
            for (int n = 1; n <= 6; n++) {
                BooleanRing x = new BooleanRing();
                x.reset(n);
                x.toggle(0, (1 << n) - 1);
                Check.due("all but one", x.zeros(1), (1 << n) - 1);
                x.toggle(0, 0);
                Check.due("one", x.zeros(1), 1);
            }
        });
        Check.boundary(26, "zeros of each, but none in common", () -> {
            BooleanRing x = Rings.with(4, "a", "a+1");
            Check.due("zeros(1)", x.zeros(1), 8);
            Check.due("zeros(2)", x.zeros(2), 8);
            Check.due("zeros(3)", x.zeros(3), 0);
        });
    }

    private static void zeroAt() {
        Check.boundary(27, "of no registers: each point, and no more", () -> {
            for (int n = 1; n <= 6; n++) {
                BooleanRing x = new BooleanRing();
                x.reset(n);
                for (int i = 0; i < 1 << n; i++) {
                    Check.due("zeroAt(0, " + i + ")", x.zeroAt(0, i), i);
                }
                Check.due("zeroAt(0, 2^n)", x.zeroAt(0, 1 << n), Rings.NONE);
                Check.due("zeroAt(0, the greatest index)", x.zeroAt(0, Integer.MAX_VALUE), Rings.NONE);
            }
        });
        Check.boundary(27, "one zero, at the last or the first point", () -> {
            BooleanRing x = Rings.with(6, "abcdef+1", "a", "b", "c", "d", "e", "f");
            Check.due("the last point", x.zeroAt(1, 0), 63);
            Check.due("no second one", x.zeroAt(1, 1), Rings.NONE);
            Check.due("the first point", x.zeroAt(126, 0), 0);
            Check.due("no second one", x.zeroAt(126, 1), Rings.NONE);
            Check.due("none in common", x.zeroAt(127, 0), Rings.NONE);
        });
        Check.boundary(27, "no zero: index 0 is not found, index -1 is out of range", () -> {
            BooleanRing x = Rings.with(4, "1");
            Check.due("zeroAt(1, 0)", x.zeroAt(1, 0), Rings.NONE);
            Check.due("zeroAt(1, -1)", x.zeroAt(1, -1), Rings.INVALID);
            Check.due("zeroAt(1, the least index)", x.zeroAt(1, Integer.MIN_VALUE), Rings.INVALID);
            Check.due("zeroAt(256, 0)", x.zeroAt(256, 0), Rings.INVALID);
            Check.due("zeroAt(-1, 0)", x.zeroAt(-1, 0), Rings.INVALID);
        });
    }

    private static void combine() {
        Check.boundary(28, "of no registers: 0, and a change", () -> {
            BooleanRing x = Rings.with(4, "ab");
            Check.due("combine(0, 0)", x.combine(0, 0), 0);
            Rings.holds("combine(0, 0)", x, 0, "0");
            Check.due("undo()", x.undo(), 1);
            Rings.holds("undo()", x, 0, "ab");
        });
        Check.boundary(28, "of one register: itself", () -> {
            BooleanRing x = Rings.with(4, "ab+c+1");
            Check.due("combine(1, 7)", x.combine(1, 7), 3);
            Check.due("combine(1, 0)", x.combine(1, 0), 3);
            Rings.holds("combine", x, 0, "ab+c+1");
            Rings.holds("combine", x, 7, "ab+c+1");
        });
        Check.boundary(28, "without a common zero: 1", () -> {
            BooleanRing x = Rings.with(4, "1", "a", "a+1");
            Check.due("combine(7, 3)", x.combine(7, 3), 1);
            Check.due("combine(6, 4)", x.combine(6, 4), 1);
            Rings.holds("with 1", x, 3, "1");
            Rings.holds("a and a + 1", x, 4, "1");
        });
        Check.boundary(28, "all eight registers, into one of them", () -> {
            BooleanRing x = Rings.with(6, "a", "b", "c", "d", "e", "f");
            Check.due("combine(255, 2)", x.combine(255, 2), 63);
            Check.due("all but 1", x.has(2, 0), 0);
            Check.due("zeros(4)", x.zeros(4), 1);
            Check.due("zeroAt(4, 0)", x.zeroAt(4, 0), 0);
        });
        Check.boundary(28, "with 0 nothing becomes different", () -> {
            BooleanRing x = Rings.with(4, "ab+c");
            Check.due("combine(255, 1)", x.combine(255, 1), 2);
            Rings.holds("combine(255, 1)", x, 1, "ab+c");
        });
    }

    private static void eliminate() {
        Check.boundary(29, "of no registers: 0, and a change", () -> {
            BooleanRing x = Rings.with(4, "ab");
            Check.due("eliminate(0, 0, 0)", x.eliminate(0, 0, 0), 0);
            Rings.holds("eliminate(0, 0, 0)", x, 0, "0");
            Check.due("undo()", x.undo(), 1);
        });
        Check.boundary(29, "without a common zero: 1", () -> {
            BooleanRing x = Rings.with(4, "1", "a", "a+1");
            Check.due("eliminate(1, 3, 3)", x.eliminate(1, 3, 3), 1);
            Check.due("eliminate(6, 0, 4)", x.eliminate(6, 0, 4), 1);
            Rings.holds("of 1", x, 3, "1");
            Rings.holds("of a and a + 1", x, 4, "1");
        });
        Check.boundary(29, "one value must do for all registers", () -> {
            BooleanRing x = Rings.with(4, "a+b", "a+c");
            Check.due("of one", x.eliminate(1, 0, 2), 0);
            Check.due("of both", x.eliminate(3, 0, 3), 2);
            Rings.holds("of both", x, 3, "b+c");
        });
        Check.boundary(29, "a variable that does not occur: as combine", () -> {
            BooleanRing x = Rings.with(4, "ab", "c");
            Check.due("eliminate(3, 3, 2)", x.eliminate(3, 3, 2), x.combine(3, 4));
            Check.due("isSame(2, 4)", x.isSame(2, 4), 1);
        });
        Check.boundary(29, "the first and the last variable; it is not in the result", () -> {
            BooleanRing x = Rings.with(6, "af+1", "a+f");
            Check.due("the first", x.eliminate(1, 0, 2), 2);
            Check.due("the last", x.eliminate(1, 5, 3), 2);
            Rings.hold("eliminate", x, "af+1", "a+f", "f+1", "a+1");
            Check.due("either value does", x.eliminate(2, 5, 4), 0);
            Check.due("one more", x.eliminate(1, 6, 3), Rings.INVALID);
        });
        Check.boundary(29, "into a register of the set", () -> {
            BooleanRing x = Rings.with(4, "ab+c", "a+1");
            Check.due("eliminate(3, 0, 1)", x.eliminate(3, 0, 1), 2);
            Rings.hold("eliminate", x, "ab+c", "b+c");
        });
    }

    private static void eliminateTheOnlyVariable() {
        Check.boundary(29, "the only variable: a constant remains", () -> {
            BooleanRing x = Rings.with(1, "a", "a+1", "1", "0");
            int[] due = {0, 0, 1, 0};
            for (int r = 0; r < 4; r++) {
                Check.due("eliminate of register " + r, x.eliminate(1 << r, 0, 7), due[r]);
                Rings.holds("eliminate of register " + r, x, 7, due[r] == 1 ? "1" : "0");
            }
            Check.due("eliminate of a and a + 1", x.eliminate(3, 0, 7), 1);
            Check.due("another variable", x.eliminate(3, 1, 7), Rings.INVALID);
        });
    }

    private static void fibres() {
        Check.boundary(30, "0 to 2, and neither -1 nor 3", () -> {
            BooleanRing x = Rings.with(4, "ab+c");
            int[] due = {Rings.INVALID, 2, 4, 2, Rings.INVALID};
            for (int many = -1; many <= 3; many++) {
                Check.due("fibres(1, 0, " + many + ")", x.fibres(1, 0, many), due[many + 1]);
            }
        });
        Check.boundary(30, "of no registers, and without a common zero", () -> {
            for (int n = 1; n <= 6; n++) {
                BooleanRing x = new BooleanRing();
                x.reset(n);
                x.toggle(0, 0);
                for (int k = 0; k < n; k++) {
                    for (int many = 0; many < 3; many++) {
                        Check.due("of none", x.fibres(0, k, many), many == 2 ? 1 << (n - 1) : 0);
                        Check.due("of 1", x.fibres(1, k, many), many == 0 ? 1 << (n - 1) : 0);
                    }
                }
            }
        });
        Check.boundary(30, "one zero, at the first or the last point", () -> {
            for (int n = 1; n <= 6; n++) {
                BooleanRing x = new BooleanRing();
                x.reset(n);
                x.toggle(0, 0);
                x.copy(0, 1);
                x.flip(0, 0);
                x.flip(1, (1 << n) - 1);
                for (int k : new int[] {0, n - 1}) {
                    for (int set = 1; set <= 2; set++) {
                        Check.due("none", x.fibres(set, k, 0), (1 << (n - 1)) - 1);
                        Check.due("one", x.fibres(set, k, 1), 1);
                        Check.due("two", x.fibres(set, k, 2), 0);
                    }
                }
            }
        });
        Check.boundary(30, "one variable: there is one assignment to no variables", () -> {
            BooleanRing x = Rings.with(1, "a", "a+1", "1");
            Check.due("of a", x.fibres(1, 0, 1), 1);
            Check.due("of a + 1", x.fibres(2, 0, 1), 1);
            Check.due("of 1", x.fibres(4, 0, 0), 1);
            Check.due("of none", x.fibres(0, 0, 2), 1);
            Check.due("another variable", x.fibres(0, 1, 2), Rings.INVALID);
        });
    }

    private static void isMember() {
        Check.boundary(31, "the ideal of no registers, and of 0: only 0", () -> {
            BooleanRing x = Rings.with(4, "1", "ab");
            for (int set : new int[] {0, 4, 252}) {
                Check.due("0", x.isMember(7, set), 1);
                Check.due("1", x.isMember(0, set), 0);
                Check.due("ab", x.isMember(1, set), 0);
            }
        });
        Check.boundary(31, "the ideal of 1, or without a common zero: everything", () -> {
            BooleanRing x = Rings.withAllMonomials(6);
            x.toggle(1, 0);
            x.toggle(2, 1);
            x.sum(1, 2, 3);
            for (int set : new int[] {2, 12, 255}) {
                Check.due("all monomials", x.isMember(0, set), 1);
                Check.due("1", x.isMember(1, set), 1);
                Check.due("0", x.isMember(7, set), 1);
            }
        });
        Check.boundary(31, "a register and itself, a product, a factor", () -> {
            BooleanRing x = Rings.with(4, "a+b", "ac+bc");
            Check.due("itself", x.isMember(0, 1), 1);
            Check.due("a product", x.isMember(1, 1), 1);
            Check.due("a factor", x.isMember(0, 2), 0);
        });
        Check.boundary(31, "one common zero decides, at the first or the last point", () -> {
            BooleanRing x = Rings.with(6, "a+1", "a", "abcdef+1", "1");
            x.flip(3, 0);
            Check.due("a+1 at the last point", x.isMember(0, 4), 1);
            Check.due("a at the last point", x.isMember(1, 4), 0);
            Check.due("a+1 at the first point", x.isMember(0, 8), 0);
            Check.due("a at the first point", x.isMember(1, 8), 1);
        });
    }

    private static void isSameIdeal() {
        Check.boundary(32, "a set and itself", () -> {
            BooleanRing x = Rings.with(4, "ab+c", "d");
            for (int set : new int[] {0, 1, 2, 3, 128, 255}) {
                Check.due("isSameIdeal(" + set + ", " + set + ")", x.isSameIdeal(set, set), 1);
            }
        });
        Check.boundary(32, "no registers, and 0", () -> {
            BooleanRing x = Rings.with(4, "1");
            Check.due("isSameIdeal(0, 128)", x.isSameIdeal(0, 128), 1);
            Check.due("isSameIdeal(254, 0)", x.isSameIdeal(254, 0), 1);
            Check.due("isSameIdeal(0, 1)", x.isSameIdeal(0, 1), 0);
            Check.due("isSameIdeal(1, 0)", x.isSameIdeal(1, 0), 0);
        });
        Check.boundary(32, "without common zeros", () -> {
            BooleanRing x = Rings.with(4, "1", "a", "a+1", "b", "b+1");
            Check.due("1 or a, a+1", x.isSameIdeal(1, 6), 1);
            Check.due("a, a+1 or b, b+1", x.isSameIdeal(6, 24), 1);
            Check.due("a, b+1 or b, a+1", x.isSameIdeal(18, 12), 0);
        });
        Check.boundary(32, "one within the other", () -> {
            BooleanRing x = Rings.with(4, "a", "ab");
            Check.due("a or ab", x.isSameIdeal(1, 2), 0);
            Check.due("ab or a", x.isSameIdeal(2, 1), 0);
            Check.due("a or a, ab", x.isSameIdeal(1, 3), 1);
        });
        Check.boundary(32, "one point makes the difference", () -> {
            BooleanRing x = Rings.with(6, "abc+def", "abc+def", "abc+def");
            x.flip(1, 63);
            x.flip(2, 0);
            Check.due("the last point", x.isSameIdeal(1, 2), 0);
            Check.due("the first point", x.isSameIdeal(4, 1), 0);
        });
    }

    private static void fixedVariables() {
        Check.boundary(33, "no common zero", () -> {
            BooleanRing x = Rings.with(4, "1", "a", "a+1");
            Check.due("of 1", x.fixedVariables(1), Rings.NONE);
            Check.due("of a and a + 1", x.fixedVariables(6), Rings.NONE);
            Check.due("of 256", x.fixedVariables(256), Rings.INVALID);
            Check.due("of -1", x.fixedVariables(-1), Rings.INVALID);
        });
        Check.boundary(33, "no registers, and 0: none is fixed", () -> {
            BooleanRing x = new BooleanRing();
            for (int n = 1; n <= 6; n++) {
                x.reset(n);
                Check.due("of none", x.fixedVariables(0), 0);
                Check.due("of 0", x.fixedVariables(255), 0);
            }
        });
        Check.boundary(33, "one common zero: all are fixed", () -> {
            for (int n = 1; n <= 6; n++) {
                BooleanRing x = new BooleanRing();
                x.reset(n);
                x.toggle(0, 0);
                x.copy(0, 1);
                x.flip(0, 0);
                x.flip(1, (1 << n) - 1);
                Check.due("the first point", x.fixedVariables(1), n);
                Check.due("the last point", x.fixedVariables(2), n);
            }
        });
        Check.boundary(33, "two common zeros, which differ in one variable or in all", () -> {
            for (int n = 1; n <= 6; n++) {
                BooleanRing x = new BooleanRing();
                x.reset(n);
                x.toggle(0, 0);
                x.flip(0, 0);
                x.copy(0, 1);
                x.flip(0, 1 << (n - 1));
                x.flip(1, (1 << n) - 1);
                Check.due("in one variable", x.fixedVariables(1), n - 1);
                Check.due("in all variables", x.fixedVariables(2), 0);
            }
        });
    }
}
