/** What the tests do with a BooleanRing again and again: fill its registers from texts, and tell what they hold. */
final class Rings {
    static final int INVALID = BooleanRing.INVALID_ARGUMENT;
    static final int IMPOSSIBLE = BooleanRing.NOT_POSSIBLE;
    static final int LIMIT = BooleanRing.LIMIT_REACHED;
    static final int NONE = BooleanRing.NOT_FOUND;

    private Rings() {
    }

    static void write(BooleanRing x, String text) {
        x.clearText();
        for (int i = 0; i < text.length(); i++) {
            x.type(text.charAt(i));
        }
    }

    static void put(BooleanRing x, int register, String text) {
        write(x, text);
        if (x.read(register) < 0) {
            Check.tell("cannot read " + text);
        }
    }

    /** A new object with these polynomials in its first registers; each takes a place in the history. */
    static BooleanRing with(int variables, String... texts) {
        BooleanRing x = new BooleanRing();
        x.reset(variables);
        for (int r = 0; r < texts.length; r++) {
            put(x, r, texts[r]);
        }
        return x;
    }

    /** A new object with all monomials in the register 0. */
    static BooleanRing withAllMonomials(int variables) {
        BooleanRing x = new BooleanRing();
        x.reset(variables);
        for (int m = 0; m < 1 << variables; m++) {
            x.toggle(0, m);
        }
        return x;
    }

    static String text(BooleanRing x, int register) {
        StringBuilder all = new StringBuilder();
        int length = x.textLength(register);
        for (int i = 0; i < length; i++) {
            all.append((char) x.textAt(register, i));
        }
        return all.toString();
    }

    static void holds(String call, BooleanRing x, int register, String want) {
        Check.due(call + ", register " + register, text(x, register), want);
    }

    /** The registers from 0 on hold these. */
    static void hold(String call, BooleanRing x, String... wants) {
        for (int r = 0; r < wants.length; r++) {
            holds(call, x, r, wants[r]);
        }
    }

    /** How many states the history has; they are used up. */
    static int statesOf(BooleanRing x) {
        int states = 0;
        while (x.undo() >= 0) {
            states++;
        }
        return states;
    }
}
