/** Counts the tests of one program, and prints each answer that is not the one that is due. */
final class Check {
    private int passed;
    private int failed;
    private String name;
    private boolean good;

    /** Begins a test; the one before it ends. */
    void test(String begun) {
        endTest();
        name = begun;
        good = true;
    }

    void due(long want, long got) {
        if (got != want) {
            fail("answered " + got + ", due is " + want);
        }
    }

    void same(String what, String want, String got) {
        if (!got.equals(want)) {
            fail(what + " is\n" + got + "due is\n" + want);
        }
    }

    void yes(String what, boolean holds) {
        if (!holds) {
            fail(what);
        }
    }

    void fail(String why) {
        good = false;
        StackTraceElement[] trace = new Throwable().getStackTrace();
        StackTraceElement place = trace[0];
        for (int i = 0; i < trace.length && isHelper(place.getClassName()); i++) {
            place = trace[i];
        }
        System.out.println(name + ", line " + place.getLineNumber() + ": " + why);
    }

    private static boolean isHelper(String place) {
        return place.equals("Check") || place.equals("Whole");
    }

    /** Prints the line that .ci/run reads, and ends the program. */
    void end() {
        endTest();
        System.out.println(passed + " passed, " + failed + " failed");
        System.exit(failed == 0 ? 0 : 1);
    }

    private void endTest() {
        if (name == null) {
            return;
        }
        if (good) {
            passed++;
        } else {
            failed++;
        }
        name = null;
    }

    /** Puts a text in place of the one that was. */
    static void write(RootedDeltas x, String text) {
        x.clearText();
        for (int i = 0; i < text.length(); i++) {
            x.type(text.charAt(i));
        }
    }

    static int perform(RootedDeltas x, String text) {
        write(x, text);
        return x.perform();
    }

    /** All that is told of a state. It takes many calls: a test of a limit of calls can't use it. */
    static String state(RootedDeltas x) {
        StringBuilder all = new StringBuilder("counts");
        for (int what = 0; what <= 12; what++) {
            all.append(' ').append(x.count(what));
        }
        all.append('\n');
        for (int version = 0; version < 24; version++) {
            if (x.version(version, 1) != RootedDeltas.UNKNOWN) {
                all.append(version).append(':');
                for (int cell = 0; cell < 8; cell++) {
                    all.append(' ').append(x.cell(version, cell));
                }
                for (int what = 0; what <= 9; what++) {
                    all.append(' ').append(x.version(version, what));
                }
                all.append(" best ").append(x.bestRoot(version)).append('\n');
            }
        }
        return all.toString();
    }
}
