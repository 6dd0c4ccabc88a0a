/** Calls BooleanRing and PlainRing alike: by the number of the promise, with up to four arguments. */
interface Calls {
    int answer(int promise, int a, int b, int c, int d);

    static Calls of(BooleanRing ring) {
        return (promise, a, b, c, d) -> answerOf(ring, promise, a, b, c, d);
    }

    static Calls of(PlainRing plain) {
        return (promise, a, b, c, d) -> answerOf(plain, promise, a, b, c, d);
    }

    /** For each argument a letter: r register, m mask, v variable, b bit, o order, s set, i index, c sign, n number. */
    static String kindsOf(int promise) {
        String[] kinds = {
            "n", "", "rm", "rr", "rrr", "rrr", "rmr", "rvbr", "rvrr", "rvr", "rm", "rvv", "",
            "rm", "r", "r", "r", "r", "", "roi", "rm", "rr", "rsor", "so", "s", "si", "sr", "svr", "svo",
            "rs", "ss", "s", "c", "", "", "r", "r", "ri",
        };
        return (kinds[promise - 2] + "----").substring(0, 4);
    }

    private static int answerOf(BooleanRing ring, int promise, int a, int b, int c, int d) {
        switch (promise) {
            case 2: return ring.reset(a);
            case 3: return ring.variables();
            case 4: return ring.toggle(a, b);
            case 5: return ring.copy(a, b);
            case 6: return ring.sum(a, b, c);
            case 7: return ring.product(a, b, c);
            case 8: return ring.times(a, b, c);
            case 9: return ring.restrict(a, b, c, d);
            case 10: return ring.substitute(a, b, c, d);
            case 11: return ring.derivative(a, b, c);
            case 12: return ring.flip(a, b);
            case 13: return ring.exchange(a, b, c);
            case 14: return ring.undo();
            case 15: return ring.has(a, b);
            case 16: return ring.terms(a);
            case 17: return ring.degree(a);
            case 18: return ring.occurring(a);
            case 19: return ring.size(a);
            case 20: return ring.sharedSize();
            case 21: return ring.termAt(a, b, c);
            case 22: return ring.value(a, b);
            case 23: return ring.isSame(a, b);
            case 24: return ring.reduce(a, b, c, d);
            case 25: return ring.echelon(a, b);
            case 26: return ring.zeros(a);
            case 27: return ring.zeroAt(a, b);
            case 28: return ring.combine(a, b);
            case 29: return ring.eliminate(a, b, c);
            case 30: return ring.fibres(a, b, c);
            case 31: return ring.isMember(a, b);
            case 32: return ring.isSameIdeal(a, b);
            case 33: return ring.fixedVariables(a);
            case 34: return ring.type(a);
            case 35: return ring.clearText();
            case 36: return ring.fault();
            case 37: return ring.read(a);
            case 38: return ring.textLength(a);
            case 39: return ring.textAt(a, b);
            default: throw new IllegalArgumentException("promise " + promise);
        }
    }

    private static int answerOf(PlainRing plain, int promise, int a, int b, int c, int d) {
        switch (promise) {
            case 2: return plain.reset(a);
            case 3: return plain.variables();
            case 4: return plain.toggle(a, b);
            case 5: return plain.copy(a, b);
            case 6: return plain.sum(a, b, c);
            case 7: return plain.product(a, b, c);
            case 8: return plain.times(a, b, c);
            case 9: return plain.restrict(a, b, c, d);
            case 10: return plain.substitute(a, b, c, d);
            case 11: return plain.derivative(a, b, c);
            case 12: return plain.flip(a, b);
            case 13: return plain.exchange(a, b, c);
            case 14: return plain.undo();
            case 15: return plain.has(a, b);
            case 16: return plain.terms(a);
            case 17: return plain.degree(a);
            case 18: return plain.occurring(a);
            case 19: return plain.size(a);
            case 20: return plain.sharedSize();
            case 21: return plain.termAt(a, b, c);
            case 22: return plain.value(a, b);
            case 23: return plain.isSame(a, b);
            case 24: return plain.reduce(a, b, c, d);
            case 25: return plain.echelon(a, b);
            case 26: return plain.zeros(a);
            case 27: return plain.zeroAt(a, b);
            case 28: return plain.combine(a, b);
            case 29: return plain.eliminate(a, b, c);
            case 30: return plain.fibres(a, b, c);
            case 31: return plain.isMember(a, b);
            case 32: return plain.isSameIdeal(a, b);
            case 33: return plain.fixedVariables(a);
            case 34: return plain.type(a);
            case 35: return plain.clearText();
            case 36: return plain.fault();
            case 37: return plain.read(a);
            case 38: return plain.textLength(a);
            case 39: return plain.textAt(a, b);
            default: throw new IllegalArgumentException("promise " + promise);
        }
    }
}
