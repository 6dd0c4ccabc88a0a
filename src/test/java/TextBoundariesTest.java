/** The boundary cases of promises 34 to 39, each under its own name. The ranges of arguments are in RangesTest. */
public final class TextBoundariesTest {
    private static final String LETTERS = "abcdef";

    private TextBoundariesTest() {
    }

    public static void main(String[] args) {
        type();
        clearText();
        faultOfShortTexts();
        faultAfterEachBeginning();
        faultAndVariables();
        faultOfFullTexts();
        read();
        readRefused();
        textLength();
        textAt();
        Check.everyPromiseHasACase(34, 39);
        Check.end("TextBoundariesTest");
    }

    private static void type() {
        Check.boundary(34, "32 and 126 are allowed, 31 and 127 are not", () -> {
            BooleanRing x = new BooleanRing();
            Check.due("type(31)", x.type(31), Rings.INVALID);
            Check.due("type(32)", x.type(32), 1);
            Check.due("type(127)", x.type(127), Rings.INVALID);
            Check.due("type(126)", x.type(126), 2);
            Check.due("clearText()", x.clearText(), 2);
        });
        Check.boundary(34, "each character between is allowed", () -> {
            BooleanRing x = new BooleanRing();
            for (int c = 32; c <= 126; c++) {
                Check.due("type(" + c + ")", x.type(c), 1);
                x.clearText();
            }
        });
        Check.boundary(34, "the 60th character has a place, the 61st has none", () -> {
            BooleanRing x = new BooleanRing();
            for (int i = 1; i <= 60; i++) {
                Check.due("character " + i, x.type(i % 2 == 1 ? 'a' : '+'), i);
            }
            Check.due("character 61", x.type('a'), Rings.LIMIT);
            Check.due("once more", x.type('+'), Rings.LIMIT);
            Check.due("fault(): the text is as it was", x.fault(), 60);
            Check.due("clearText()", x.clearText(), 60);
            Check.due("type('a') then", x.type('a'), 1);
            Check.due("fault()", x.fault(), Rings.NONE);
        });
        Check.boundary(34, "a full text and a wrong character: INVALID_ARGUMENT comes first", () -> {
            BooleanRing x = new BooleanRing();
            Rings.write(x, "1".repeat(60));
            Check.due("type(31)", x.type(31), Rings.INVALID);
            Check.due("type(127)", x.type(127), Rings.INVALID);
            Check.due("type(32)", x.type(32), Rings.LIMIT);
            Check.due("type(126)", x.type(126), Rings.LIMIT);
        });
        Check.boundary(34, "after clearText 60 characters have a place again", () -> {
            BooleanRing x = new BooleanRing();
            Rings.write(x, "1".repeat(60));
            Rings.write(x, "a+".repeat(29) + "b");
            Check.due("character 60", x.type('c'), 60);
            Check.due("character 61", x.type('d'), Rings.LIMIT);
            Check.due("fault()", x.fault(), Rings.NONE);
        });
    }

    private static void clearText() {
        Check.boundary(35, "an empty text, one character, and a full text", () -> {
            BooleanRing x = new BooleanRing();
            Check.due("empty", x.clearText(), 0);
            x.type('a');
            Check.due("one character", x.clearText(), 1);
            Check.due("empty again", x.clearText(), 0);
            Rings.write(x, " ".repeat(60));
            Check.due("full", x.clearText(), 60);
            Check.due("empty again", x.clearText(), 0);
        });
        Check.boundary(35, "registers and history stay", () -> {
            BooleanRing x = Rings.with(4, "ab", "c");
            Check.due("clearText()", x.clearText(), 1);
            Rings.hold("clearText()", x, "ab", "c");
            Check.due("undo()", x.undo(), 1);
        });
        Check.boundary(35, "nothing of the old text is left", () -> {
            BooleanRing x = new BooleanRing();
            Rings.write(x, "abcd+d");
            Rings.write(x, "b");
            Check.due("fault()", x.fault(), Rings.NONE);
            x.read(0);
            Rings.holds("read(0)", x, 0, "b");
        });
    }

    private static void faultIs(BooleanRing x, String text, int want) {
        Rings.write(x, text);
        Check.due("fault of \"" + text + "\"", x.fault(), want);
    }

    private static void faultOfShortTexts() {
        Check.boundary(36, "the empty text: its length, 0", () -> {
            BooleanRing x = new BooleanRing();
            Check.due("fault()", x.fault(), 0);
            x.type('a');
            x.clearText();
            Check.due("fault() after clearText", x.fault(), 0);
        });
        Check.boundary(36, "a wrong first character: position 0, too", () -> {
            BooleanRing x = new BooleanRing();
            faultIs(x, "+", 0);
            faultIs(x, "+a", 0);
            faultIs(x, "e", 0);
            faultIs(x, " ", 0);
        });
        Check.boundary(36, "a + at the end: the length of the text", () -> {
            BooleanRing x = new BooleanRing();
            faultIs(x, "a+", 2);
            faultIs(x, "1+0+", 4);
            faultIs(x, "abcd+", 5);
        });
        Check.boundary(36, "a + too many, at the second one", () -> {
            BooleanRing x = new BooleanRing();
            faultIs(x, "a++", 2);
            faultIs(x, "a++b", 2);
        });
        Check.boundary(36, "the first of two faults counts", () -> {
            BooleanRing x = new BooleanRing();
            faultIs(x, "ab a++", 2);
            faultIs(x, "ba+ba", 1);
            faultIs(x, "a+e+", 2);
        });
        Check.boundary(36, "letters must be different and ascending, in each term anew", () -> {
            BooleanRing x = new BooleanRing();
            faultIs(x, "aa", 1);
            faultIs(x, "ba", 1);
            faultIs(x, "acb", 2);
            faultIs(x, "abcdd", 4);
            faultIs(x, "ad", Rings.NONE);
            faultIs(x, "d+c+b+a", Rings.NONE);
            faultIs(x, "a+a+a", Rings.NONE);
        });
        Check.boundary(36, "0 and 1 are terms alone", () -> {
            BooleanRing x = new BooleanRing();
            faultIs(x, "0", Rings.NONE);
            faultIs(x, "1", Rings.NONE);
            faultIs(x, "0+0+1+1", Rings.NONE);
            for (String wrong : new String[] {"00", "11", "01", "10", "0a", "1a", "a0", "a1"}) {
                faultIs(x, wrong, 1);
            }
        });
        Check.boundary(36, "a fault at the last character, and one behind it", () -> {
            BooleanRing x = new BooleanRing();
            faultIs(x, "abcda", 4);
            faultIs(x, "abcd+", 5);
            faultIs(x, "abcd", Rings.NONE);
        });
    }

    private static void faultAfterEachBeginning() {
        String[] beginnings = {"", "a", "b", "c", "d", "ac", "abc", "abcd", "0", "1", "a+", "0+", "d+b", "1+0", "b+1+"};
        String[] allowed = {
            "01abcd", "+bcd", "+cd", "+d", "+", "+d", "+d", "+", "+", "+", "01abcd", "01abcd", "+cd", "+", "01abcd",
        };
        for (int i = 0; i < beginnings.length; i++) {
            String start = beginnings[i];
            String next = allowed[i];
            Check.boundary(36, "each character after \"" + start + "\"", () -> {
                for (char c = 32; c <= 126; c++) {
                    int want = next.indexOf(c) < 0 ? start.length() : c == '+' ? start.length() + 1 : Rings.NONE;
                    faultIs(new BooleanRing(), start + c, want);
                }
            });
        }
    }

    private static void faultAndVariables() {
        Check.boundary(36, "the letter of the variable n - 1 is the last one", () -> {
            for (int n = 1; n <= 6; n++) {
                BooleanRing x = new BooleanRing();
                x.reset(n);
                faultIs(x, LETTERS.substring(0, n), Rings.NONE);
                faultIs(x, LETTERS.substring(n - 1, n), Rings.NONE);
                faultIs(x, "abcdefg".substring(0, n + 1), n);
                faultIs(x, "abcdefg".substring(n, n + 1), 0);
                faultIs(x, "0+" + "abcdefg".charAt(n), 2);
            }
        });
        Check.boundary(36, "one text, with another number of variables", () -> {
            BooleanRing x = new BooleanRing();
            Rings.write(x, "abcdef");
            for (int n = 1; n <= 6; n++) {
                x.reset(n);
                Check.due("fault() with " + n, x.fault(), n < 6 ? n : Rings.NONE);
            }
        });
        Check.boundary(36, "the neighbours of the letters and digits, and capitals", () -> {
            BooleanRing x = new BooleanRing();
            x.reset(6);
            for (char c : "`g/2{@AF*,-".toCharArray()) {
                faultIs(x, "" + c, 0);
                faultIs(x, "a" + c, 1);
                faultIs(x, "a+" + c, 2);
            }
        });
    }

    private static void faultOfFullTexts() {
        Check.boundary(36, "a full text without a fault", () -> {
            BooleanRing x = new BooleanRing();
            faultIs(x, "a+".repeat(29) + "ab", Rings.NONE);
            faultIs(x, "ab+".repeat(19) + "abc", Rings.NONE);
        });
        Check.boundary(36, "a full text that ends with +: its length, 60", () -> {
            BooleanRing x = new BooleanRing();
            faultIs(x, "1+".repeat(30), 60);
            Check.due("read(0)", x.read(0), Rings.IMPOSSIBLE);
        });
        Check.boundary(36, "a full text with a fault at the last or the first character", () -> {
            BooleanRing x = new BooleanRing();
            faultIs(x, "1+".repeat(29) + "1a", 59);
            faultIs(x, " " + "1+".repeat(29) + "1", 0);
        });
    }

    private static void read() {
        Check.boundary(37, "0 and 1", () -> {
            BooleanRing x = Rings.with(4, "ab");
            Rings.write(x, "0");
            Check.due("read(0)", x.read(0), 0);
            Rings.holds("read 0", x, 0, "0");
            Rings.write(x, "1");
            Check.due("read(7)", x.read(7), 1);
            Rings.holds("read 1", x, 7, "1");
        });
        Check.boundary(37, "terms that come twice or three times", () -> {
            BooleanRing x = new BooleanRing();
            String[] texts = {"a+a", "ab+ab+ab", "1+1", "1+1+1", "0+0", "0+1", "a+0+a+1"};
            String[] due = {"0", "ab", "0", "1", "0", "1", "1"};
            for (int i = 0; i < texts.length; i++) {
                Rings.write(x, texts[i]);
                Check.due("read of " + texts[i], x.read(0), due[i].equals("0") ? 0 : 1);
                Rings.holds("read of " + texts[i], x, 0, due[i]);
            }
        });
        Check.boundary(37, "the register gets it, whatever it held", () -> {
            BooleanRing x = Rings.with(4, "ab+c");
            Check.due("read(0) again", x.read(0), 2);
            Rings.holds("read(0) again", x, 0, "ab+c");
            Check.due("it is a change", x.undo(), 1);
        });
        Check.boundary(37, "the text stays", () -> {
            BooleanRing x = Rings.with(4, "ab+c");
            Check.due("read(7)", x.read(7), 2);
            Check.due("clearText()", x.clearText(), 4);
        });
        Check.boundary(37, "a full text, with all its terms", () -> {
            BooleanRing x = new BooleanRing();
            x.reset(6);
            Rings.write(x, "abcdef+bcdef+cdef+def+ef+f+1+abcde+abcd+abc+ab+a+b+c+d+e+0+0");
            Check.due("the text is full", x.type('0'), Rings.LIMIT);
            Check.due("read(3)", x.read(3), 16);
            for (int m : new int[] {63, 62, 60, 56, 48, 32, 0, 31, 15, 7, 3, 1, 2, 4, 8, 16}) {
                Check.due("has(3, " + m + ")", x.has(3, m), 1);
            }
        });
        Check.boundary(37, "the last letter at the end, and the last of six", () -> {
            BooleanRing x = new BooleanRing();
            x.reset(6);
            Rings.write(x, "f+af+abcdef");
            Check.due("read(0)", x.read(0), 3);
            Rings.holds("read(0)", x, 0, "abcdef+af+f");
        });
    }

    private static void readRefused() {
        Check.boundary(37, "a text with a fault: nothing changes, and nothing is recorded", () -> {
            for (String wrong : new String[] {"", "+", "a+", "ba", "e", "a b", "1".repeat(60)}) {
                BooleanRing x = Rings.with(4, "ab", "c");
                Rings.write(x, wrong);
                Check.due("read(0) of \"" + wrong + "\"", x.read(0), Rings.IMPOSSIBLE);
                Rings.hold("read(0) of \"" + wrong + "\"", x, "ab", "c");
                Check.due("undo()", x.undo(), 1);
                Check.due("clearText()", x.clearText(), wrong.length());
            }
        });
        Check.boundary(37, "a text with a fault and a wrong register: INVALID_ARGUMENT comes first", () -> {
            BooleanRing x = new BooleanRing();
            Check.due("read(8) of the empty text", x.read(8), Rings.INVALID);
            Check.due("read(-1) of the empty text", x.read(-1), Rings.INVALID);
            x.type('+');
            Check.due("read(8) of +", x.read(8), Rings.INVALID);
            Check.due("read(7) of +", x.read(7), Rings.IMPOSSIBLE);
        });
        Check.boundary(37, "a letter that the number of variables does not have any more", () -> {
            BooleanRing x = Rings.with(6, "f");
            x.reset(5);
            Check.due("read(0) with 5", x.read(0), Rings.IMPOSSIBLE);
            x.reset(6);
            Check.due("read(0) with 6", x.read(0), 1);
        });
    }

    private static void textLength() {
        Check.boundary(38, "0 and 1 have one character", () -> {
            BooleanRing x = Rings.with(4, "1");
            Check.due("of 1", x.textLength(0), 1);
            Check.due("of 0", x.textLength(7), 1);
        });
        Check.boundary(38, "all monomials", () -> {
            int[] due = {3, 8, 20, 48, 112, 256};
            for (int n = 1; n <= 6; n++) {
                Check.due("with " + n, Rings.withAllMonomials(n).textLength(0), due[n - 1]);
            }
        });
        Check.boundary(38, "one monomial: a character for each variable", () -> {
            for (int n = 1; n <= 6; n++) {
                BooleanRing x = new BooleanRing();
                x.reset(n);
                x.toggle(0, (1 << n) - 1);
                Check.due("with " + n, x.textLength(0), n);
                x.toggle(0, 0);
                Check.due("with " + n + ", and 1", x.textLength(0), n + 2);
            }
        });
    }

    private static void textAt() {
        Check.boundary(39, "0 and 1: one character, and none behind it", () -> {
            BooleanRing x = Rings.with(4, "1");
            Check.due("of 1", x.textAt(0, 0), '1');
            Check.due("behind 1", x.textAt(0, 1), Rings.NONE);
            Check.due("of 0", x.textAt(7, 0), '0');
            Check.due("behind 0", x.textAt(7, 1), Rings.NONE);
            Check.due("before 0", x.textAt(7, -1), Rings.INVALID);
        });
        Check.boundary(39, "the last index, one more, the greatest and the least one", () -> {
            BooleanRing x = Rings.withAllMonomials(6);
            Check.due("index 0", x.textAt(0, 0), 'a');
            Check.due("index 6", x.textAt(0, 6), '+');
            Check.due("index 255", x.textAt(0, 255), '1');
            Check.due("index 256", x.textAt(0, 256), Rings.NONE);
            Check.due("the greatest", x.textAt(0, Integer.MAX_VALUE), Rings.NONE);
            Check.due("index -1", x.textAt(0, -1), Rings.INVALID);
            Check.due("the least", x.textAt(0, Integer.MIN_VALUE), Rings.INVALID);
        });
        Check.boundary(39, "descending by lex", () -> {
            Rings.holds("with 1", Rings.withAllMonomials(1), 0, "a+1");
            Rings.holds("with 2", Rings.withAllMonomials(2), 0, "ab+a+b+1");
            Rings.holds("with 3", Rings.withAllMonomials(3), 0, "abc+ab+ac+a+bc+b+c+1");
            Rings.holds("by lex, not by degree", Rings.with(6, "bcdef+a+f+1"), 0, "a+bcdef+f+1");
        });
        Check.boundary(39, "a standard text is read as the same polynomial", () -> {
            BooleanRing x = Rings.withAllMonomials(3);
            Rings.write(x, Rings.text(x, 0));
            Check.due("read(1)", x.read(1), 8);
            Check.due("isSame(0, 1)", x.isSame(0, 1), 1);
        });
    }
}
