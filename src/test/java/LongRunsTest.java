/**
 * Long runs of calls, each answer held against the model's. What is told in between makes more than
 * 512 calls of a run: the program counts none, so that it may be held to the document beyond them.
 */
public final class LongRunsTest {
    private static final int RUNS = 100;
    private static final int CALLS = 512;
    private static final Check check = new Check();

    /** The same numbers at each run of the tests. */
    private long seed;
    private final RootedDeltas x = new RootedDeltas();
    private final Model model = new Model();
    private final StringBuilder said = new StringBuilder();
    private final int style;

    private LongRunsTest(int run) {
        seed = run * 7919L + 17;
        style = run % 4;
    }

    public static void main(String[] args) {
        check.test("promises 1 to 25: long runs against the model");
        for (int run = 0; run < RUNS; run++) {
            if (!new LongRunsTest(run).run()) {
                break;
            }
        }
        check.end();
    }

    private boolean run() {
        int calls = 0;
        while (calls < CALLS) {
            boolean good = below(6) == 0 ? typeText() : call(below(24));
            calls++;
            if (!good || calls % 64 == 0 && !allIsTold()) {
                return false;
            }
        }
        return true;
    }

    private int below(int bound) {
        seed = seed * 6364136223846793005L + 1442695040888963407L;
        return (int) ((seed >>> 33) % bound);
    }

    /** Mostly versions that there are; the runs differ in how bushy their trees get. */
    private int aVersion() {
        int versions = model.count(0);
        switch (below(12)) {
            case 0:
                return below(27) - 1;
            case 1:
                return below(100) == 0 ? Integer.MIN_VALUE + below(40) : below(24);
            case 2:
                return 0;
            default:
                return style < 2 && below(3) > 0 ? versions - 1 : below(versions);
        }
    }

    private int sometimesWrong(int bound) {
        return below(15) == 0 ? below(3 * bound) - bound : below(bound);
    }

    private boolean same(String call, int want, int got) {
        said.append(call).append(" = ").append(got).append('\n');
        if (want == got) {
            return true;
        }
        check.fail(said + "due is " + want);
        return false;
    }

    private boolean call(int which) {
        int a = aVersion();
        int b = aVersion();
        int cell = sometimesWrong(8);
        switch (which) {
            case 0: case 1: case 2: case 3:
                int number = sometimesWrong(10);
                return same("make(" + a + ", " + cell + ", " + number + ")",
                        model.make(a, cell, number), x.make(a, cell, number));
            case 4: case 5:
                int cells = sometimesWrong(256);
                return same("mix(" + a + ", " + b + ", " + cells + ")",
                        model.mix(a, b, cells), x.mix(a, b, cells));
            case 6:
                return same("remove(" + a + ")", model.remove(a), x.remove(a));
            case 7: case 8: case 9: case 10:
                return same("ask(" + a + ")", model.ask(a), x.ask(a));
            case 11: case 12:
                return same("root(" + a + ")", model.root(a), x.root(a));
            case 13: case 14:
                return same("cut(" + a + ")", model.cut(a), x.cut(a));
            case 15: case 16:
                return same("join(" + a + ")", model.join(a), x.join(a));
            case 17:
                int setting = sometimesWrong(2);
                int value = below(3) > 0 ? below(4) : sometimesWrong(30) + 1;
                return same("set(" + setting + ", " + value + ")",
                        model.set(setting, value), x.set(setting, value));
            case 18:
                return same("perform()", model.perform(), x.perform());
            case 19:
                return below(3) > 0 || same("undo()", model.undo(), x.undo());
            case 20:
                return below(4) > 0 || same("keep()", model.keep(), x.keep());
            case 21:
                return below(6) > 0 || same("restore()", model.restore(), x.restore());
            default:
                return tell(a, b);
        }
    }

    private boolean tell(int a, int b) {
        int step = sometimesWrong(10);
        return same("way(" + a + ", " + step + ")", model.way(a, step), x.way(a, step))
                && same("version(" + a + ", " + step + ")", model.version(a, step), x.version(a, step))
                && same("common(" + a + ", " + b + ")", model.common(a, b), x.common(a, b))
                && same("unlike(" + a + ", " + b + ")", model.unlike(a, b), x.unlike(a, b))
                && same("stopped(" + step % 3 + ")", model.stopped(step % 3), x.stopped(step % 3));
    }

    private String anOrder() {
        String[] words = {"ask ", "root ", "join ", "make ", "make ", "mix "};
        int word = below(words.length);
        int version = below(8) == 0 ? below(24) : below(model.count(0));
        StringBuilder order = new StringBuilder(words[word]).append(version);
        if (word == 3 || word == 4) {
            order.append(' ').append(below(8)).append(' ').append(below(10));
        } else if (word == 5) {
            order.append(' ').append(below(model.count(0))).append(' ').append(below(4));
            for (int cell = 4; cell < 8; cell++) {
                order.append(below(2) == 0 ? "" : String.valueOf(cell));
            }
        }
        return order.toString();
    }

    private boolean typeText() {
        StringBuilder text = new StringBuilder(anOrder());
        for (int more = below(7); more > 0; more--) {
            text.append(';').append(anOrder());
        }
        String signs = " ;0123456789makeixsrootjin";
        if (below(2) == 0) {
            text.setCharAt(below(text.length()), signs.charAt(below(signs.length())));
        } else if (below(4) == 0) {
            text.insert(below(text.length()), signs.charAt(below(signs.length())));
        } else if (below(4) == 0) {
            text.setLength(below(text.length()));
        }
        boolean good = same("clearText()", model.clearText(), x.clearText());
        for (int i = 0; i < text.length() && good; i++) {
            char sign = text.charAt(i);
            good = same("type('" + sign + "')", model.type(sign), x.type(sign));
        }
        return good && same("perform()", model.perform(), x.perform());
    }

    private boolean allIsTold() {
        boolean good = true;
        for (int what = -1; what <= 15 && good; what++) {
            good = same("count(" + what + ")", model.count(what), x.count(what));
        }
        for (int version = -1; version <= 24 && good; version++) {
            good = same("ifRoot(" + version + ")", model.ifRoot(version), x.ifRoot(version))
                    && same("bestRoot(" + version + ")", model.bestRoot(version), x.bestRoot(version))
                    && same("ifCut(" + version + ")", model.ifCut(version), x.ifCut(version));
            for (int i = -1; i <= 24 && good; i++) {
                good = same("cell(" + version + ", " + i + ")", model.cell(version, i), x.cell(version, i))
                        && same("version(" + version + ", " + i + ")",
                                model.version(version, i), x.version(version, i))
                        && same("way(" + version + ", " + i + ")", model.way(version, i), x.way(version, i))
                        && same("unlike(" + version + ", " + i + ")",
                                model.unlike(version, i), x.unlike(version, i))
                        && same("common(" + version + ", " + i + ")",
                                model.common(version, i), x.common(version, i));
            }
        }
        return good;
    }
}
