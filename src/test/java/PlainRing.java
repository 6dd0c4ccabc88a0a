import java.util.ArrayList;
import java.util.Collections;
import java.util.HashSet;
import java.util.List;
import java.util.Set;
import java.util.TreeSet;

/**
 * The document's words once more, as plainly and slowly as they stand there, for comparison: a
 * polynomial is a set of monomials, and nothing is shared with the way in which BooleanRing works.
 */
final class PlainRing {
    private static final int INVALID = -1;
    private static final int IMPOSSIBLE = -2;
    private static final int LIMIT = -3;
    private static final int NONE = -4;

    private int n = 4;
    private List<Set<Integer>> registers = zeroRegisters();
    private final List<List<Set<Integer>>> history = new ArrayList<>();
    private String text = "";

    private static List<Set<Integer>> zeroRegisters() {
        List<Set<Integer>> made = new ArrayList<>();
        for (int r = 0; r < 8; r++) {
            made.add(new TreeSet<>());
        }
        return made;
    }

    // ---- polynomials

    private static Set<Integer> plus(Set<Integer> p, Set<Integer> q) {
        Set<Integer> result = new TreeSet<>(p);
        for (int m : q) {
            if (!result.add(m)) {
                result.remove(m);
            }
        }
        return result;
    }

    private static Set<Integer> multiply(Set<Integer> p, Set<Integer> q) {
        Set<Integer> result = new TreeSet<>();
        for (int a : p) {
            for (int b : q) {
                result = plus(result, Set.of(a | b));
            }
        }
        return result;
    }

    private static int valueOf(Set<Integer> p, int point) {
        int ones = 0;
        for (int m : p) {
            if ((m & point) == m) {
                ones++;
            }
        }
        return ones % 2;
    }

    /** The polynomial that is 1 at just these points. */
    private Set<Integer> withOnesAt(Set<Integer> points) {
        Set<Integer> result = new TreeSet<>();
        for (int point : points) {
            Set<Integer> factor = new TreeSet<>(Set.of(0));
            for (int k = 0; k < n; k++) {
                boolean one = (point >> k & 1) == 1;
                factor = multiply(factor, one ? Set.of(1 << k) : Set.of(0, 1 << k));
            }
            result = plus(result, factor);
        }
        return result;
    }

    private static boolean isGreater(int a, int b, int order) {
        int d = a ^ b;
        if (d == 0) {
            return false;
        }
        if (order > 0 && Integer.bitCount(a) != Integer.bitCount(b)) {
            return Integer.bitCount(a) > Integer.bitCount(b);
        }
        return order < 2 ? (a & Integer.lowestOneBit(d)) != 0 : (a & Integer.highestOneBit(d)) == 0;
    }

    private static List<Integer> descending(Set<Integer> p, int order) {
        List<Integer> list = new ArrayList<>(p);
        list.sort((a, b) -> a.equals(b) ? 0 : isGreater(a, b, order) ? -1 : 1);
        return list;
    }

    private static int leadingOf(Set<Integer> p, int order) {
        return descending(p, order).get(0);
    }

    private static void collect(Set<Integer> p, Set<Set<Integer>> seen) {
        int all = 0;
        for (int m : p) {
            all |= m;
        }
        if (all == 0 || !seen.add(p)) {
            return;
        }
        int v = Integer.lowestOneBit(all);
        Set<Integer> a = new TreeSet<>();
        Set<Integer> b = new TreeSet<>();
        for (int m : p) {
            if ((m & v) != 0) {
                a.add(m ^ v);
            } else {
                b.add(m);
            }
        }
        collect(a, seen);
        collect(b, seen);
    }

    private static String standardText(Set<Integer> p) {
        List<String> words = new ArrayList<>();
        for (int m : descending(p, 0)) {
            StringBuilder word = new StringBuilder();
            for (int k = 0; k < 6; k++) {
                if ((m >> k & 1) == 1) {
                    word.append("abcdef".charAt(k));
                }
            }
            words.add(m == 0 ? "1" : word.toString());
        }
        return p.isEmpty() ? "0" : String.join("+", words);
    }

    // ---- ranges and changes

    private static boolean out(int x, int from, int to) {
        return x < from || x > to;
    }

    private boolean outMask(int mask) {
        return out(mask, 0, (1 << n) - 1);
    }

    private List<Set<Integer>> chosen(int set) {
        List<Set<Integer>> list = new ArrayList<>();
        for (int r = 0; r < 8; r++) {
            if ((set >> r & 1) == 1) {
                list.add(registers.get(r));
            }
        }
        return list;
    }

    private void remember() {
        history.add(new ArrayList<>(registers));
        if (history.size() == 7) {
            history.remove(0);
        }
    }

    private int store(int into, Set<Integer> p) {
        remember();
        registers.set(into, p);
        return p.size();
    }

    // ---- the calls

    int reset(int variables) {
        if (out(variables, 1, 6)) {
            return INVALID;
        }
        int before = n;
        n = variables;
        registers = zeroRegisters();
        history.clear();
        return before;
    }

    int variables() {
        return n;
    }

    int toggle(int register, int monomial) {
        if (out(register, 0, 7) || outMask(monomial)) {
            return INVALID;
        }
        return store(register, plus(registers.get(register), Set.of(monomial)));
    }

    int copy(int from, int into) {
        if (out(from, 0, 7) || out(into, 0, 7)) {
            return INVALID;
        }
        return store(into, registers.get(from));
    }

    int sum(int a, int b, int into) {
        if (out(a, 0, 7) || out(b, 0, 7) || out(into, 0, 7)) {
            return INVALID;
        }
        return store(into, plus(registers.get(a), registers.get(b)));
    }

    int product(int a, int b, int into) {
        if (out(a, 0, 7) || out(b, 0, 7) || out(into, 0, 7)) {
            return INVALID;
        }
        return store(into, multiply(registers.get(a), registers.get(b)));
    }

    int times(int a, int monomial, int into) {
        if (out(a, 0, 7) || outMask(monomial) || out(into, 0, 7)) {
            return INVALID;
        }
        return store(into, multiply(registers.get(a), Set.of(monomial)));
    }

    int restrict(int a, int variable, int value, int into) {
        if (out(a, 0, 7) || out(variable, 0, n - 1) || out(value, 0, 1) || out(into, 0, 7)) {
            return INVALID;
        }
        return store(into, restricted(registers.get(a), variable, value));
    }

    private static Set<Integer> restricted(Set<Integer> p, int variable, int value) {
        Set<Integer> result = new TreeSet<>();
        for (int m : p) {
            boolean contains = (m >> variable & 1) == 1;
            if (!contains || value == 1) {
                result = plus(result, Set.of(contains ? m - (1 << variable) : m));
            }
        }
        return result;
    }

    int substitute(int a, int variable, int by, int into) {
        if (out(a, 0, 7) || out(variable, 0, n - 1) || out(by, 0, 7) || out(into, 0, 7)) {
            return INVALID;
        }
        Set<Integer> result = new TreeSet<>();
        for (int m : registers.get(a)) {
            boolean contains = (m >> variable & 1) == 1;
            int rest = contains ? m - (1 << variable) : m;
            result = plus(result, contains ? multiply(Set.of(rest), registers.get(by)) : Set.of(m));
        }
        return store(into, result);
    }

    int derivative(int a, int variable, int into) {
        if (out(a, 0, 7) || out(variable, 0, n - 1) || out(into, 0, 7)) {
            return INVALID;
        }
        Set<Integer> p = registers.get(a);
        return store(into, plus(restricted(p, variable, 0), restricted(p, variable, 1)));
    }

    int flip(int register, int point) {
        if (out(register, 0, 7) || outMask(point)) {
            return INVALID;
        }
        return store(register, plus(registers.get(register), withOnesAt(Set.of(point))));
    }

    int exchange(int register, int x, int y) {
        if (out(register, 0, 7) || out(x, 0, n - 1) || out(y, 0, n - 1)) {
            return INVALID;
        }
        Set<Integer> result = new TreeSet<>();
        for (int m : registers.get(register)) {
            int rest = m & ~(1 << x) & ~(1 << y);
            result.add(rest | (m >> x & 1) << y | (m >> y & 1) << x);
        }
        return store(register, result);
    }

    int undo() {
        if (history.isEmpty()) {
            return IMPOSSIBLE;
        }
        registers = history.remove(history.size() - 1);
        return history.size();
    }

    int has(int register, int monomial) {
        if (out(register, 0, 7) || outMask(monomial)) {
            return INVALID;
        }
        return registers.get(register).contains(monomial) ? 1 : 0;
    }

    int terms(int register) {
        return out(register, 0, 7) ? INVALID : registers.get(register).size();
    }

    int degree(int register) {
        if (out(register, 0, 7)) {
            return INVALID;
        }
        int greatest = NONE;
        for (int m : registers.get(register)) {
            greatest = Math.max(greatest, Integer.bitCount(m));
        }
        return greatest;
    }

    int occurring(int register) {
        if (out(register, 0, 7)) {
            return INVALID;
        }
        int all = 0;
        for (int m : registers.get(register)) {
            all |= m;
        }
        return all;
    }

    int size(int register) {
        if (out(register, 0, 7)) {
            return INVALID;
        }
        Set<Set<Integer>> seen = new HashSet<>();
        collect(registers.get(register), seen);
        return seen.size();
    }

    int sharedSize() {
        Set<Set<Integer>> seen = new HashSet<>();
        for (Set<Integer> p : registers) {
            collect(p, seen);
        }
        return seen.size();
    }

    int termAt(int register, int order, int index) {
        if (out(register, 0, 7) || out(order, 0, 2) || index < 0) {
            return INVALID;
        }
        List<Integer> list = descending(registers.get(register), order);
        return index < list.size() ? list.get(index) : NONE;
    }

    int value(int register, int point) {
        if (out(register, 0, 7) || outMask(point)) {
            return INVALID;
        }
        return valueOf(registers.get(register), point);
    }

    int isSame(int a, int b) {
        if (out(a, 0, 7) || out(b, 0, 7)) {
            return INVALID;
        }
        return registers.get(a).equals(registers.get(b)) ? 1 : 0;
    }

    int reduce(int register, int set, int order, int into) {
        if (out(register, 0, 7) || out(set, 0, 255) || out(order, 0, 2) || out(into, 0, 7)) {
            return INVALID;
        }
        Set<Integer> p = registers.get(register);
        int steps = 0;
        Set<Integer> next = reducedOnce(p, set, order);
        while (next != null) {
            p = next;
            steps++;
            next = reducedOnce(p, set, order);
        }
        store(into, p);
        return steps;
    }

    private Set<Integer> reducedOnce(Set<Integer> p, int set, int order) {
        for (int m : descending(p, order)) {
            for (Set<Integer> q : chosen(set)) {
                if (!q.isEmpty()) {
                    int l = leadingOf(q, order);
                    if ((m & l) == l) {
                        return plus(p, multiply(Set.of(m & ~l), q));
                    }
                }
            }
        }
        return null;
    }

    /** Looks in all sums for the ones that the form asks for, so that no elimination is done here. */
    int echelon(int set, int order) {
        if (out(set, 0, 255) || out(order, 0, 2)) {
            return INVALID;
        }
        Set<Set<Integer>> sums = new HashSet<>();
        sums.add(new TreeSet<>());
        for (Set<Integer> q : chosen(set)) {
            Set<Set<Integer>> more = new HashSet<>(sums);
            for (Set<Integer> s : sums) {
                more.add(plus(s, q));
            }
            sums = more;
        }
        Set<Integer> leading = new TreeSet<>();
        for (Set<Integer> s : sums) {
            if (!s.isEmpty()) {
                leading.add(leadingOf(s, order));
            }
        }
        remember();
        int next = 0;
        List<Integer> sorted = descending(leading, order);
        for (int r = 0; r < 8; r++) {
            if ((set >> r & 1) == 1) {
                registers.set(r, next < sorted.size() ? only(sums, leading, sorted.get(next)) : new TreeSet<>());
                next++;
            }
        }
        return sorted.size();
    }

    private static Set<Integer> only(Set<Set<Integer>> sums, Set<Integer> leading, int wanted) {
        for (Set<Integer> s : sums) {
            Set<Integer> common = new TreeSet<>(s);
            common.retainAll(leading);
            if (common.equals(Set.of(wanted))) {
                return s;
            }
        }
        throw new IllegalStateException("no sum with " + wanted);
    }

    private List<Integer> commonZeros(int set) {
        List<Integer> points = new ArrayList<>();
        for (int point = 0; point < 1 << n; point++) {
            boolean all = true;
            for (Set<Integer> q : chosen(set)) {
                all &= valueOf(q, point) == 0;
            }
            if (all) {
                points.add(point);
            }
        }
        return points;
    }

    private Set<Integer> withZerosAt(Set<Integer> points) {
        Set<Integer> others = new TreeSet<>();
        for (int point = 0; point < 1 << n; point++) {
            if (!points.contains(point)) {
                others.add(point);
            }
        }
        return withOnesAt(others);
    }

    int zeros(int set) {
        return out(set, 0, 255) ? INVALID : commonZeros(set).size();
    }

    int zeroAt(int set, int index) {
        if (out(set, 0, 255) || index < 0) {
            return INVALID;
        }
        List<Integer> points = commonZeros(set);
        return index < points.size() ? points.get(index) : NONE;
    }

    int combine(int set, int into) {
        if (out(set, 0, 255) || out(into, 0, 7)) {
            return INVALID;
        }
        return store(into, withZerosAt(new TreeSet<>(commonZeros(set))));
    }

    int eliminate(int set, int variable, int into) {
        if (out(set, 0, 255) || out(variable, 0, n - 1) || out(into, 0, 7)) {
            return INVALID;
        }
        Set<Integer> shadow = new TreeSet<>();
        for (int point : commonZeros(set)) {
            shadow.add(point & ~(1 << variable));
            shadow.add(point | 1 << variable);
        }
        return store(into, withZerosAt(shadow));
    }

    int fibres(int set, int variable, int many) {
        if (out(set, 0, 255) || out(variable, 0, n - 1) || out(many, 0, 2)) {
            return INVALID;
        }
        List<Integer> points = commonZeros(set);
        int counted = 0;
        for (int point = 0; point < 1 << n; point++) {
            if ((point >> variable & 1) == 0) {
                int here = Collections.frequency(points, point);
                int there = Collections.frequency(points, point | 1 << variable);
                counted += here + there == many ? 1 : 0;
            }
        }
        return counted;
    }

    private static long asNumber(Set<Integer> p) {
        long number = 0;
        for (int m : p) {
            number |= 1L << m;
        }
        return number;
    }

    /** The sums of all products of monomials with these polynomials, by a base with different highest bits. */
    private long[] idealOf(int set) {
        long[] base = new long[64];
        for (Set<Integer> q : chosen(set)) {
            for (int m = 0; m < 1 << n; m++) {
                long rest = remainder(base, asNumber(multiply(Set.of(m), q)));
                if (rest != 0) {
                    base[63 - Long.numberOfLeadingZeros(rest)] = rest;
                }
            }
        }
        return base;
    }

    private static long remainder(long[] base, long number) {
        long rest = number;
        for (int i = 63; i >= 0; i--) {
            if ((rest >>> i & 1) == 1 && base[i] != 0) {
                rest ^= base[i];
            }
        }
        return rest;
    }

    int isMember(int register, int set) {
        if (out(register, 0, 7) || out(set, 0, 255)) {
            return INVALID;
        }
        return remainder(idealOf(set), asNumber(registers.get(register))) == 0 ? 1 : 0;
    }

    int isSameIdeal(int one, int other) {
        if (out(one, 0, 255) || out(other, 0, 255)) {
            return INVALID;
        }
        return isWithin(one, other) && isWithin(other, one) ? 1 : 0;
    }

    private boolean isWithin(int one, int other) {
        long[] base = idealOf(other);
        for (Set<Integer> q : chosen(one)) {
            if (remainder(base, asNumber(q)) != 0) {
                return false;
            }
        }
        return true;
    }

    int fixedVariables(int set) {
        if (out(set, 0, 255)) {
            return INVALID;
        }
        List<Integer> points = commonZeros(set);
        int fixed = 0;
        for (int k = 0; k < n; k++) {
            Set<Integer> values = new TreeSet<>();
            for (int point : points) {
                values.add(point >> k & 1);
            }
            fixed += values.size() == 1 ? 1 : 0;
        }
        return points.isEmpty() ? NONE : fixed;
    }

    int type(int character) {
        if (out(character, 32, 126)) {
            return INVALID;
        }
        if (text.length() == 60) {
            return LIMIT;
        }
        text += (char) character;
        return text.length();
    }

    int clearText() {
        int before = text.length();
        text = "";
        return before;
    }

    private boolean isOfTheForm(String candidate) {
        StringBuilder letters = new StringBuilder();
        for (int k = 0; k < n; k++) {
            letters.append("abcdef".charAt(k)).append('?');
        }
        String term = "(0|1|(?=[a-f])" + letters + ")";
        return candidate.matches(term + "(\\+" + term + ")*");
    }

    int fault() {
        for (int i = 0; i < text.length(); i++) {
            String start = text.substring(0, i + 1);
            // A beginning is of the form itself or lacks just its last term.
            if (!isOfTheForm(start) && !isOfTheForm(start + "0")) {
                return i;
            }
        }
        return isOfTheForm(text) ? NONE : text.length();
    }

    int read(int into) {
        if (out(into, 0, 7)) {
            return INVALID;
        }
        if (fault() != NONE) {
            return IMPOSSIBLE;
        }
        Set<Integer> result = new TreeSet<>();
        for (String term : text.split("\\+")) {
            if (!term.equals("0")) {
                int m = 0;
                for (int i = 0; i < term.length() && !term.equals("1"); i++) {
                    m |= 1 << "abcdef".indexOf(term.charAt(i));
                }
                result = plus(result, Set.of(m));
            }
        }
        return store(into, result);
    }

    int textLength(int register) {
        return out(register, 0, 7) ? INVALID : standardText(registers.get(register)).length();
    }

    int textAt(int register, int index) {
        if (out(register, 0, 7) || index < 0) {
            return INVALID;
        }
        String standard = standardText(registers.get(register));
        return index < standard.length() ? standard.charAt(index) : NONE;
    }
}
