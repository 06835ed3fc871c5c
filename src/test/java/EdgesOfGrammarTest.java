/**
 * Promise 12, the form of the orders: behind each beginning of a text every character is tried. The
 * table is written down by hand from the document's section TEXTS.
 */
public final class EdgesOfGrammarTest {
    private static final Check check = new Check();

    private static final String DIGITS = "0123456789";
    private static final String CELLS = "01234567";
    private static final String WORDS = "majr";

    /** A beginning of an order, and the characters that are allowed behind it. */
    private static final String[][] ALLOWED = {
        {"", WORDS}, {"m", "ai"}, {"ma", "k"}, {"mak", "e"}, {"make", " "},
        {"mi", "x"}, {"mix", " "},
        {"a", "s"}, {"as", "k"}, {"ask", " "},
        {"r", "o"}, {"ro", "o"}, {"roo", "t"}, {"root", " "},
        {"j", "o"}, {"jo", "i"}, {"joi", "n"}, {"join", " "},
        {"make 0 ", CELLS}, {"make 23 ", CELLS},
        {"make 0 0", " "}, {"make 0 1", " "}, {"make 0 7", " "}, {"make 23 7", " "},
        {"make 0 0 ", DIGITS}, {"make 0 7 ", DIGITS}, {"make 23 7 ", DIGITS},
        {"make 0 0 0", ";"}, {"make 0 0 1", ";"}, {"make 0 0 9", ";"}, {"make 23 7 9", ";"},
        {"mix 0 0 ", CELLS}, {"mix 23 23 ", CELLS},
        {"mix 0 0 0", "1234567;"}, {"mix 0 0 1", "234567;"}, {"mix 0 0 2", "34567;"},
        {"mix 0 0 3", "4567;"}, {"mix 0 0 4", "567;"}, {"mix 0 0 5", "67;"}, {"mix 0 0 6", "7;"},
        {"mix 0 0 7", ";"}, {"mix 0 0 01", "234567;"}, {"mix 0 0 024", "567;"}, {"mix 0 0 36", "7;"},
        {"mix 0 0 0123456", "7;"}, {"mix 0 0 01234567", ";"}, {"mix 23 23 17", ";"},
    };

    /** Where a version stands: what is ahead of it, and what may follow it. */
    private static final String[][] VERSIONS = {
        {"make ", " "}, {"mix ", " "}, {"mix 0 ", " "}, {"mix 1 ", " "}, {"mix 23 ", " "},
        {"ask ", ";"}, {"root ", ";"}, {"join ", ";"},
    };

    /** Signs that look like an allowed one, or become one if only some of their bits are looked at. */
    private static final int[] FAR = {
        0x2003, 0x3000, 0x0660, 0x0661, 0x06f0, 0x0966, 0xff10, 0xff11, 0xff17, 0xff1b, 0xff41, 0x037e,
        0x0430, 0x017f, 0x212a, 0x7fff, 0x8000, 0xd800, 0xdfff, 0xfffe, 0xffff,
    };

    public static void main(String[] args) {
        for (String[] row : ALLOWED) {
            behind(row[0], row[1]);
        }
        for (String[] row : VERSIONS) {
            version(row[0], row[1]);
        }
        check.end();
    }

    /**
     * Numbers from 0 to 23 that do not begin with 0; a digit by which a number would be greater is
     * not allowed.
     */
    private static void version(String ahead, String follows) {
        behind(ahead, DIGITS);
        behind(ahead + "0", follows);
        behind(ahead + "1", DIGITS + follows);
        behind(ahead + "2", "0123" + follows);
        for (int number = 3; number <= 23; number++) {
            behind(ahead + number, follows);
        }
    }

    private static void behind(String beginning, String allowed) {
        check.test("promise 12: allowed behind \"" + beginning + "\"");
        oneMore("", beginning, allowed);
        oneMore("ask 0;", beginning, allowed);
        oneMore("ask 0;make 10 7 9;mix 23 23 012;", beginning, allowed);
    }

    private static void oneMore(String orders, String beginning, String allowed) {
        String text = orders + beginning;
        boolean mayEnd = allowed.contains(";");
        int answer = perform(text);
        check.yes("\"" + text + "\" answered " + answer,
                mayEnd ? answer > -100 : answer == -100 - text.length());
        for (int sign = 0; sign < 512; sign++) {
            one(text, (char) sign, allowed.indexOf(sign) >= 0);
        }
        for (int sign : FAR) {
            one(text, (char) sign, false);
        }
        for (int i = 0; i < allowed.length(); i++) {
            for (int high = 2; high < 256; high += 23) {
                one(text, (char) (allowed.charAt(i) + (high << 8)), false);
            }
        }
    }

    /** With a character that is allowed, a fault is behind it or there is none. */
    private static void one(String text, char sign, boolean isAllowed) {
        int answer = perform(text + sign);
        boolean isFaultHere = answer == -100 - text.length();
        boolean isFaultBehind = answer == -101 - text.length();
        if (isAllowed ? !isFaultBehind && answer <= -100 : !isFaultHere) {
            check.fail("\"" + text + "\" and the sign " + (int) sign + " answered " + answer);
        }
    }

    private static int perform(String text) {
        return Check.perform(new RootedDeltas(), text);
    }
}
