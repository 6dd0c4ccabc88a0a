import java.util.Arrays;

/**
 * A workbench for Boolean polynomials in up to six variables, in eight registers.
 *
 * A polynomial is one long: bit m is set if the monomial m is a term. With at most six variables
 * there are at most 64 monomials, so equal polynomials are equal numbers, and a sum is an xor.
 */
public final class BooleanRing {
    public static final int INVALID_ARGUMENT = -1;
    public static final int NOT_POSSIBLE = -2;
    public static final int LIMIT_REACHED = -3;
    public static final int NOT_FOUND = -4;

    private static final int REGISTERS = 8;
    private static final int SETS = 1 << REGISTERS;
    private static final int ORDERS = 3;
    private static final int VARIABLES_AT_FIRST = 4;
    private static final int VARIABLES_AT_MOST = 6;
    private static final int MONOMIALS_AT_MOST = 1 << VARIABLES_AT_MOST;

    private final long[] registers = new long[REGISTERS];
    private final int[] leading = new int[REGISTERS];
    private final History history = new History();
    private final Diagrams diagrams = new Diagrams();
    private final Typed typed = new Typed();
    private int n = VARIABLES_AT_FIRST;

    public BooleanRing() {
    }

    // ---- registers

    public int reset(int variables) {
        if (variables < 1 || variables > VARIABLES_AT_MOST) {
            return INVALID_ARGUMENT;
        }
        int before = n;
        n = variables;
        Arrays.fill(registers, 0L);
        history.forget();
        return before;
    }

    public int variables() {
        return n;
    }

    public int toggle(int register, int monomial) {
        if (!isRegister(register) || !isMask(monomial)) {
            return INVALID_ARGUMENT;
        }
        return put(register, registers[register] ^ Poly.ofMonomial(monomial));
    }

    public int copy(int from, int into) {
        if (!isRegister(from) || !isRegister(into)) {
            return INVALID_ARGUMENT;
        }
        return put(into, registers[from]);
    }

    public int sum(int a, int b, int into) {
        if (!isRegister(a) || !isRegister(b) || !isRegister(into)) {
            return INVALID_ARGUMENT;
        }
        return put(into, registers[a] ^ registers[b]);
    }

    public int product(int a, int b, int into) {
        if (!isRegister(a) || !isRegister(b) || !isRegister(into)) {
            return INVALID_ARGUMENT;
        }
        return put(into, Poly.multiplied(registers[a], registers[b], n));
    }

    public int times(int a, int monomial, int into) {
        if (!isRegister(a) || !isMask(monomial) || !isRegister(into)) {
            return INVALID_ARGUMENT;
        }
        return put(into, Poly.multiplied(registers[a], Poly.ofMonomial(monomial), n));
    }

    public int restrict(int a, int variable, int value, int into) {
        if (!isRegister(a) || !isVariable(variable) || !isRegister(into)) {
            return INVALID_ARGUMENT;
        }
        if (value != 0 && value != 1) {
            return INVALID_ARGUMENT;
        }
        long rest = Poly.lowerHalf(registers[a], variable);
        if (value == 1) {
            rest ^= Poly.upperHalf(registers[a], variable);
        }
        return put(into, rest);
    }

    public int substitute(int a, int variable, int by, int into) {
        if (!isRegister(a) || !isVariable(variable) || !isRegister(by) || !isRegister(into)) {
            return INVALID_ARGUMENT;
        }
        long factor = Poly.upperHalf(registers[a], variable);
        long rest = Poly.lowerHalf(registers[a], variable);
        return put(into, rest ^ Poly.multiplied(factor, registers[by], n));
    }

    public int derivative(int a, int variable, int into) {
        if (!isRegister(a) || !isVariable(variable) || !isRegister(into)) {
            return INVALID_ARGUMENT;
        }
        return put(into, Poly.upperHalf(registers[a], variable));
    }

    public int flip(int register, int point) {
        if (!isRegister(register) || !isMask(point)) {
            return INVALID_ARGUMENT;
        }
        long onlyThere = Poly.transformed(1L << point, n);
        return put(register, registers[register] ^ onlyThere);
    }

    public int exchange(int register, int x, int y) {
        if (!isRegister(register) || !isVariable(x) || !isVariable(y)) {
            return INVALID_ARGUMENT;
        }
        return put(register, Poly.exchanged(registers[register], Math.min(x, y), Math.max(x, y)));
    }

    public int undo() {
        if (history.isEmpty()) {
            return NOT_POSSIBLE;
        }
        return history.restore(registers);
    }

    // ---- terms and values

    public int has(int register, int monomial) {
        if (!isRegister(register) || !isMask(monomial)) {
            return INVALID_ARGUMENT;
        }
        return Poly.bit(registers[register], monomial);
    }

    public int terms(int register) {
        if (!isRegister(register)) {
            return INVALID_ARGUMENT;
        }
        return Long.bitCount(registers[register]);
    }

    public int degree(int register) {
        if (!isRegister(register)) {
            return INVALID_ARGUMENT;
        }
        int greatest = Orders.termOf(registers[register], Orders.GRADED, 0);
        return greatest < 0 ? NOT_FOUND : Integer.bitCount(greatest);
    }

    public int occurring(int register) {
        if (!isRegister(register)) {
            return INVALID_ARGUMENT;
        }
        int found = 0;
        for (int k = 0; k < n; k++) {
            if (Poly.upperHalf(registers[register], k) != 0) {
                found |= 1 << k;
            }
        }
        return found;
    }

    public int size(int register) {
        if (!isRegister(register)) {
            return INVALID_ARGUMENT;
        }
        diagrams.forget();
        diagrams.enter(registers[register]);
        return diagrams.closedCount();
    }

    public int sharedSize() {
        diagrams.forget();
        for (int r = 0; r < REGISTERS; r++) {
            diagrams.enter(registers[r]);
        }
        return diagrams.closedCount();
    }

    public int termAt(int register, int order, int index) {
        if (!isRegister(register) || !isOrder(order) || index < 0) {
            return INVALID_ARGUMENT;
        }
        return Orders.termOf(registers[register], order, index);
    }

    public int value(int register, int point) {
        if (!isRegister(register) || !isMask(point)) {
            return INVALID_ARGUMENT;
        }
        return Poly.bit(Poly.transformed(registers[register], n), point);
    }

    public int isSame(int a, int b) {
        if (!isRegister(a) || !isRegister(b)) {
            return INVALID_ARGUMENT;
        }
        return registers[a] == registers[b] ? 1 : 0;
    }

    // ---- systems

    public int reduce(int register, int set, int order, int into) {
        if (!isRegister(register) || !isSet(set) || !isOrder(order) || !isRegister(into)) {
            return INVALID_ARGUMENT;
        }
        findLeading(order);
        long rest = registers[register];
        int steps = 0;
        // A step takes its monomial away and touches only lesser ones, so one pass downwards is enough.
        for (int i = 0; i < MONOMIALS_AT_MOST; i++) {
            int monomial = Orders.monomialAt(order, i);
            int by = Poly.bit(rest, monomial) == 1 ? reducerOf(monomial, set) : NOT_FOUND;
            if (isRegister(by)) {
                int factor = monomial & ~leading[by];
                rest ^= Poly.multiplied(registers[by], Poly.ofMonomial(factor), n);
                steps++;
            }
        }
        put(into, rest);
        return steps;
    }

    public int echelon(int set, int order) {
        if (!isSet(set) || !isOrder(order)) {
            return INVALID_ARGUMENT;
        }
        history.keep(registers);
        int free = nextOf(set, 0);
        int filled = 0;
        for (int i = 0; i < MONOMIALS_AT_MOST && free < REGISTERS; i++) {
            int monomial = Orders.monomialAt(order, i);
            if (bringUp(set, free, monomial)) {
                clearElsewhere(set, free, monomial);
                free = nextOf(set, free + 1);
                filled++;
            }
        }
        return filled;
    }

    public int zeros(int set) {
        if (!isSet(set)) {
            return INVALID_ARGUMENT;
        }
        return Long.bitCount(commonZeros(set));
    }

    public int zeroAt(int set, int index) {
        if (!isSet(set) || index < 0) {
            return INVALID_ARGUMENT;
        }
        long points = commonZeros(set);
        int left = index;
        for (int point = 0; point < MONOMIALS_AT_MOST; point++) {
            if (Poly.bit(points, point) == 1) {
                if (left == 0) {
                    return point;
                }
                left--;
            }
        }
        return NOT_FOUND;
    }

    public int combine(int set, int into) {
        if (!isSet(set) || !isRegister(into)) {
            return INVALID_ARGUMENT;
        }
        return put(into, Poly.transformed(nonZeros(set), n));
    }

    public int eliminate(int set, int variable, int into) {
        if (!isSet(set) || !isVariable(variable) || !isRegister(into)) {
            return INVALID_ARGUMENT;
        }
        long nowhere = nonZeros(set);
        long never = Poly.lowerHalf(nowhere, variable) & Poly.upperHalf(nowhere, variable);
        long values = never | Poly.raised(never, variable);
        return put(into, Poly.transformed(values, n));
    }

    public int fibres(int set, int variable, int many) {
        if (!isSet(set) || !isVariable(variable) || many < 0 || many > 2) {
            return INVALID_ARGUMENT;
        }
        long points = commonZeros(set);
        long with0 = Poly.lowerHalf(points, variable);
        long with1 = Poly.upperHalf(points, variable);
        if (many == 2) {
            return Long.bitCount(with0 & with1);
        }
        if (many == 1) {
            return Long.bitCount(with0 ^ with1);
        }
        return Long.bitCount(Poly.lowerHalf(allPoints(), variable) & ~(with0 | with1));
    }

    public int isMember(int register, int set) {
        if (!isRegister(register) || !isSet(set)) {
            return INVALID_ARGUMENT;
        }
        long values = Poly.transformed(registers[register], n);
        return (values & commonZeros(set)) == 0 ? 1 : 0;
    }

    public int isSameIdeal(int one, int other) {
        if (!isSet(one) || !isSet(other)) {
            return INVALID_ARGUMENT;
        }
        return nonZeros(one) == nonZeros(other) ? 1 : 0;
    }

    public int fixedVariables(int set) {
        if (!isSet(set)) {
            return INVALID_ARGUMENT;
        }
        long points = commonZeros(set);
        if (points == 0) {
            return NOT_FOUND;
        }
        int fixed = 0;
        for (int k = 0; k < n; k++) {
            if (Poly.lowerHalf(points, k) == 0 || Poly.upperHalf(points, k) == 0) {
                fixed++;
            }
        }
        return fixed;
    }

    // ---- texts

    public int type(int character) {
        if (character < 32 || character > 126) {
            return INVALID_ARGUMENT;
        }
        return typed.append((char) character);
    }

    public int clearText() {
        return typed.empty();
    }

    public int fault() {
        return typed.firstFault(n);
    }

    public int read(int into) {
        if (!isRegister(into)) {
            return INVALID_ARGUMENT;
        }
        if (typed.firstFault(n) != NOT_FOUND) {
            return NOT_POSSIBLE;
        }
        return put(into, typed.polynomial());
    }

    public int textLength(int register) {
        if (!isRegister(register)) {
            return INVALID_ARGUMENT;
        }
        return StandardText.lengthOf(registers[register]);
    }

    public int textAt(int register, int index) {
        if (!isRegister(register) || index < 0) {
            return INVALID_ARGUMENT;
        }
        return StandardText.characterOf(registers[register], index);
    }

    // ---- ranges

    private static boolean isRegister(int register) {
        return register >= 0 && register < REGISTERS;
    }

    private static boolean isSet(int set) {
        return set >= 0 && set < SETS;
    }

    private static boolean isOrder(int order) {
        return order >= 0 && order < ORDERS;
    }

    private boolean isVariable(int variable) {
        return variable >= 0 && variable < n;
    }

    /** Monomials and points are masks of variables, with the same range. */
    private boolean isMask(int mask) {
        return mask >= 0 && mask < (1 << n);
    }

    // ---- parts of the calls

    /** The change of one register; answers its number of terms. */
    private int put(int into, long polynomial) {
        history.keep(registers);
        if (isRegister(into)) {
            registers[into] = polynomial;
        }
        return Long.bitCount(polynomial);
    }

    private static boolean isIn(int set, int register) {
        return ((set >> register) & 1) == 1;
    }

    /** The lowest register of the set from this one on, or REGISTERS if there is none. */
    private static int nextOf(int set, int from) {
        int register = from;
        while (register < REGISTERS && !isIn(set, register)) {
            register++;
        }
        return register;
    }

    /** Notes the leading monomial of each register, NOT_FOUND for 0. */
    private void findLeading(int order) {
        for (int r = 0; r < REGISTERS; r++) {
            leading[r] = Orders.termOf(registers[r], order, 0);
        }
    }

    /** The lowest register of the set whose noted leading monomial this monomial contains. */
    private int reducerOf(int monomial, int set) {
        for (int r = 0; r < REGISTERS; r++) {
            if (isIn(set, r) && leading[r] >= 0 && (leading[r] & ~monomial) == 0) {
                return r;
            }
        }
        return NOT_FOUND;
    }

    /** Exchanges the register free with the first from it on that has the monomial, if there is one. */
    private boolean bringUp(int set, int free, int monomial) {
        if (!isRegister(free)) {
            return false;
        }
        for (int r = free; r < REGISTERS; r++) {
            if (isIn(set, r) && Poly.bit(registers[r], monomial) == 1) {
                long found = registers[r];
                registers[r] = registers[free];
                registers[free] = found;
                return true;
            }
        }
        return false;
    }

    /** Takes the monomial out of all other registers of the set by adding the register pivot. */
    private void clearElsewhere(int set, int pivot, int monomial) {
        if (!isRegister(pivot)) {
            return;
        }
        for (int r = 0; r < REGISTERS; r++) {
            if (r != pivot && isIn(set, r) && Poly.bit(registers[r], monomial) == 1) {
                registers[r] ^= registers[pivot];
            }
        }
    }

    private long allPoints() {
        return n >= VARIABLES_AT_MOST ? -1L : (1L << (1 << n)) - 1;
    }

    /** The points at which some register of the set has the value 1. */
    private long nonZeros(int set) {
        long points = 0;
        for (int r = 0; r < REGISTERS; r++) {
            if (isIn(set, r)) {
                points |= Poly.transformed(registers[r], n);
            }
        }
        return points;
    }

    private long commonZeros(int set) {
        return allPoints() & ~nonZeros(set);
    }

    /** Functions of polynomials, and of sets of points, which are longs in the same way. */
    private static final class Poly {
        /** For each variable the masks without it, as bits of a long. */
        private static final long[] WITHOUT = {
            0x5555555555555555L, 0x3333333333333333L, 0x0F0F0F0F0F0F0F0FL,
            0x00FF00FF00FF00FFL, 0x0000FFFF0000FFFFL, 0x00000000FFFFFFFFL,
        };

        private static long without(int variable) {
            return variable >= 0 && variable < WITHOUT.length ? WITHOUT[variable] : 0L;
        }

        static long ofMonomial(int monomial) {
            return 1L << monomial;
        }

        static int bit(long bits, int mask) {
            return (int) ((bits >>> mask) & 1L);
        }

        /** What has the variable, with the variable taken away. */
        static long upperHalf(long bits, int variable) {
            return (bits >>> (1 << variable)) & without(variable);
        }

        /** What does not have the variable. */
        static long lowerHalf(long bits, int variable) {
            return bits & without(variable);
        }

        /** What does not have the variable, with the variable put in. */
        static long raised(long bits, int variable) {
            return (bits & without(variable)) << (1 << variable);
        }

        /** From the terms to the points with the value 1, and in the same way back. */
        static long transformed(long bits, int variables) {
            long result = bits;
            for (int k = 0; k < variables; k++) {
                result ^= raised(result, k);
            }
            return result;
        }

        static long multiplied(long p, long q, int variables) {
            return transformed(transformed(p, variables) & transformed(q, variables), variables);
        }

        static long exchanged(long bits, int low, int high) {
            long onlyLow = bits & ~without(low) & without(high);
            long onlyHigh = bits & without(low) & ~without(high);
            int distance = (1 << high) - (1 << low);
            long unmoved = bits ^ onlyLow ^ onlyHigh;
            return unmoved | (onlyLow << distance) | (onlyHigh >>> distance);
        }

        /** The lowest variable that occurs, or VARIABLES_AT_MOST if none does. */
        static int lowestVariable(long p) {
            int k = 0;
            while (k < VARIABLES_AT_MOST && upperHalf(p, k) == 0) {
                k++;
            }
            return k;
        }
    }

    /** The orders of monomials; those of fewer variables stand in the same order as among all. */
    private static final class Orders {
        static final int LEX = 0;
        static final int GRADED = 1;

        private static final int[] BY_LEX = {
            63, 31, 47, 15, 55, 23, 39, 7, 59, 27, 43, 11, 51, 19, 35, 3,
            61, 29, 45, 13, 53, 21, 37, 5, 57, 25, 41, 9, 49, 17, 33, 1,
            62, 30, 46, 14, 54, 22, 38, 6, 58, 26, 42, 10, 50, 18, 34, 2,
            60, 28, 44, 12, 52, 20, 36, 4, 56, 24, 40, 8, 48, 16, 32, 0,
        };
        private static final int[] BY_GRADED = {
            63, 31, 47, 55, 59, 61, 62, 15, 23, 39, 27, 43, 51, 29, 45, 53,
            57, 30, 46, 54, 58, 60, 7, 11, 19, 35, 13, 21, 37, 25, 41, 49,
            14, 22, 38, 26, 42, 50, 28, 44, 52, 56, 3, 5, 9, 17, 33, 6,
            10, 18, 34, 12, 20, 36, 24, 40, 48, 1, 2, 4, 8, 16, 32, 0,
        };
        private static final int[] BY_REVERSE = {
            63, 31, 47, 55, 59, 61, 62, 15, 23, 27, 29, 30, 39, 43, 45, 46,
            51, 53, 54, 57, 58, 60, 7, 11, 13, 14, 19, 21, 22, 25, 26, 28,
            35, 37, 38, 41, 42, 44, 49, 50, 52, 56, 3, 5, 6, 9, 10, 12,
            17, 18, 20, 24, 33, 34, 36, 40, 48, 1, 2, 4, 8, 16, 32, 0,
        };

        private static int[] tableOf(int order) {
            if (order == LEX) {
                return BY_LEX;
            }
            return order == GRADED ? BY_GRADED : BY_REVERSE;
        }

        /** The monomial at a position of the order, the greatest one at 0. */
        static int monomialAt(int order, int position) {
            int[] table = tableOf(order);
            return position >= 0 && position < table.length ? table[position] : 0;
        }

        /** The term with this index in descending order, or NOT_FOUND. */
        static int termOf(long p, int order, int index) {
            if (index >= Long.bitCount(p)) {
                return NOT_FOUND;
            }
            int left = index;
            for (int i = 0; i < MONOMIALS_AT_MOST; i++) {
                int monomial = monomialAt(order, i);
                if (Poly.bit(p, monomial) == 1) {
                    if (left == 0) {
                        return monomial;
                    }
                    left--;
                }
            }
            return NOT_FOUND;
        }
    }

    /** The states of the registers before the latest changes, the oldest one first. */
    private static final class History {
        private static final int STATES = 6;

        private final long[] states = new long[STATES * REGISTERS];
        private int kept = 0;

        void forget() {
            kept = 0;
        }

        boolean isEmpty() {
            return kept <= 0;
        }

        void keep(long[] registers) {
            if (registers.length != REGISTERS) {
                return;
            }
            if (kept >= STATES) {
                System.arraycopy(states, REGISTERS, states, 0, (STATES - 1) * REGISTERS);
                kept = STATES - 1;
            }
            System.arraycopy(registers, 0, states, kept * REGISTERS, REGISTERS);
            kept++;
        }

        /** Takes the latest state out of the history; answers how many are left. */
        int restore(long[] registers) {
            if (kept > 0 && kept <= STATES && registers.length == REGISTERS) {
                kept--;
                System.arraycopy(states, kept * REGISTERS, registers, 0, REGISTERS);
            }
            return kept;
        }
    }

    /** The different polynomials that contain a variable, among some and their halves. */
    private static final class Diagrams {
        // A polynomial in six variables has at most 1 + 2 + 4 + .. + 32 such halves, itself included.
        private final long[] found = new long[REGISTERS * (MONOMIALS_AT_MOST - 1)];
        private int count = 0;

        void forget() {
            count = 0;
        }

        void enter(long p) {
            boolean isConstant = (p & ~1L) == 0;
            if (!isConstant && !isKnown(p) && count < found.length) {
                found[count] = p;
                count++;
            }
        }

        private boolean isKnown(long p) {
            for (int i = 0; i < count && i < found.length; i++) {
                if (found[i] == p) {
                    return true;
                }
            }
            return false;
        }

        /** Enters the halves of all, their halves, and so on; answers how many there are. */
        int closedCount() {
            for (int i = 0; i < count && i < found.length; i++) {
                int variable = Poly.lowestVariable(found[i]);
                enter(Poly.upperHalf(found[i], variable));
                enter(Poly.lowerHalf(found[i], variable));
            }
            return count;
        }
    }

    /** The text that is typed, and what it says as a polynomial. */
    private static final class Typed {
        private static final int CHARACTERS = 60;
        // What has been seen of a term: nothing, a letter (by its variable), "0" or "1", or no term at all.
        private static final int NOTHING = -1;
        private static final int DIGIT = VARIABLES_AT_MOST;
        private static final int BROKEN = VARIABLES_AT_MOST + 1;

        private final char[] text = new char[CHARACTERS];
        private int length = 0;

        int append(char character) {
            if (length < 0 || length >= CHARACTERS) {
                return LIMIT_REACHED;
            }
            text[length] = character;
            length++;
            return length;
        }

        int empty() {
            int before = length;
            length = 0;
            return before;
        }

        int firstFault(int variables) {
            int seen = NOTHING;
            for (int i = 0; i < length && i < CHARACTERS; i++) {
                seen = seenAfter(seen, text[i], variables);
                if (seen == BROKEN) {
                    return i;
                }
            }
            return seen == NOTHING ? length : NOT_FOUND;
        }

        private static int seenAfter(int seen, char character, int variables) {
            if (character == '+') {
                return seen == NOTHING ? BROKEN : NOTHING;
            }
            if (character == '0' || character == '1') {
                return seen == NOTHING ? DIGIT : BROKEN;
            }
            int variable = character - 'a';
            return variable > seen && variable < variables ? variable : BROKEN;
        }

        /** The polynomial of a text without a fault. */
        long polynomial() {
            long sumSoFar = 0;
            int monomial = 0;
            boolean isZero = false;
            for (int i = 0; i < length && i < CHARACTERS; i++) {
                char character = text[i];
                if (character == '+') {
                    sumSoFar ^= isZero ? 0L : Poly.ofMonomial(monomial);
                    monomial = 0;
                    isZero = false;
                } else if (character == '0') {
                    isZero = true;
                } else if (character != '1') {
                    monomial |= 1 << (character - 'a');
                }
            }
            return sumSoFar ^ (isZero ? 0L : Poly.ofMonomial(monomial));
        }
    }

    /** The standard text of a polynomial, told without being written. */
    private static final class StandardText {
        static int lengthOf(long p) {
            if (p == 0) {
                return 1;
            }
            int letters = 0;
            for (int monomial = 0; monomial < MONOMIALS_AT_MOST; monomial++) {
                if (Poly.bit(p, monomial) == 1) {
                    letters += widthOf(monomial);
                }
            }
            return letters + Long.bitCount(p) - 1;
        }

        static int characterOf(long p, int index) {
            if (index >= lengthOf(p)) {
                return NOT_FOUND;
            }
            if (p == 0) {
                return '0';
            }
            int left = index;
            for (int i = 0; i < MONOMIALS_AT_MOST; i++) {
                int monomial = Orders.monomialAt(Orders.LEX, i);
                if (Poly.bit(p, monomial) == 1) {
                    int width = widthOf(monomial);
                    if (left <= width) {
                        return left == width ? '+' : signOf(monomial, left);
                    }
                    left -= width + 1;
                }
            }
            return NOT_FOUND;
        }

        private static int widthOf(int monomial) {
            return monomial == 0 ? 1 : Integer.bitCount(monomial);
        }

        private static int signOf(int monomial, int position) {
            int left = position;
            for (int k = 0; k < VARIABLES_AT_MOST; k++) {
                if (((monomial >> k) & 1) == 1) {
                    if (left == 0) {
                        return 'a' + k;
                    }
                    left--;
                }
            }
            return '1';
        }
    }
}
