import java.util.ArrayList;
import java.util.List;

/**
 * Long runs of calls, each answer held against the model's. An object is used for 512 calls and no
 * more, as what it answers then is free: where all is told behind a run, one object after the other
 * does the calls of the run anew, and tells a part.
 */
public final class LongRunsTest {
    private static final int RUNS = 400;
    private static final int CALLS = 512;
    /** A run is no longer, so that each object that does it anew has calls left to tell something. */
    private static final int LONGEST_RUN = 440;
    /** clearText(), perform(), and between them what is typed: eight orders, the longest of 15. */
    private static final int CALLS_OF_A_TEXT = 130;
    private static final Check check = new Check();

    /** The same numbers at each run of the tests. */
    private long seed;
    private RootedDeltas x = new RootedDeltas();
    private int used;
    private final List<Runs.Call> done = new ArrayList<>();
    private final Model model = new Model();
    private final StringBuilder said = new StringBuilder();
    private final int style;

    private LongRunsTest(int run) {
        seed = run * 7919L + 17;
        style = run % 4;
    }

    public static void main(String[] args) {
        check.test("promises 1 to 25: long runs against the model");
        for (int run = 0; run < RUNS; run++) {
            if (!new LongRunsTest(run).run()) {
                break;
            }
        }
        check.end();
    }

    private boolean run() {
        int length = LONGEST_RUN / 4 + below(LONGEST_RUN * 3 / 4 - CALLS_OF_A_TEXT);
        boolean good = true;
        while (good && done.size() < length) {
            good = below(style % 2 == 0 ? 100 : 10) == 0 ? typeText() : call(below(24));
        }
        return good && allIsTold();
    }

    private int below(int bound) {
        seed = seed * 6364136223846793005L + 1442695040888963407L;
        return (int) ((seed >>> 33) % bound);
    }

    /** Mostly versions that there are; the runs differ in how bushy their trees get. */
    private int aVersion() {
        int versions = model.count(0);
        switch (below(12)) {
            case 0:
                return below(27) - 1;
            case 1:
                return below(100) == 0 ? Integer.MIN_VALUE + below(40) : below(24);
            case 2:
                return 0;
            default:
                return style < 2 && below(3) > 0 ? versions - 1 : below(versions);
        }
    }

    private int sometimesWrong(int bound) {
        return below(15) == 0 ? below(3 * bound) - bound : below(bound);
    }

    /** A call of the run: whoever does the run anew does it, too. */
    private boolean same(String call, int want, Runs.Call program) {
        done.add(program);
        return told(call, want, program);
    }

    private boolean told(String call, int want, Runs.Call program) {
        used++;
        check.yes("more than 512 calls of one object", used <= CALLS);
        int got = program.on(x);
        said.append(call).append(" = ").append(got).append('\n');
        if (want == got) {
            return true;
        }
        check.fail(said + "due is " + want);
        return false;
    }

    /** Behind the run: by another object if this one has had its calls. */
    private boolean toldBehind(String call, int want, Runs.Call program) {
        if (used == CALLS) {
            x = new RootedDeltas();
            for (Runs.Call again : done) {
                again.on(x);
            }
            used = done.size();
        }
        return told(call, want, program);
    }

    private boolean call(int which) {
        int a = aVersion();
        int b = aVersion();
        int cell = sometimesWrong(8);
        switch (which) {
            case 0: case 1: case 2: case 3:
                int number = sometimesWrong(10);
                return same("make(" + a + ", " + cell + ", " + number + ")",
                        model.make(a, cell, number), y -> y.make(a, cell, number));
            case 4: case 5:
                int cells = sometimesWrong(256);
                return same("mix(" + a + ", " + b + ", " + cells + ")",
                        model.mix(a, b, cells), y -> y.mix(a, b, cells));
            case 6:
                return same("remove(" + a + ")", model.remove(a), y -> y.remove(a));
            case 7: case 8: case 9: case 10:
                return same("ask(" + a + ")", model.ask(a), y -> y.ask(a));
            case 11: case 12:
                return same("root(" + a + ")", model.root(a), y -> y.root(a));
            case 13: case 14:
                return same("cut(" + a + ")", model.cut(a), y -> y.cut(a));
            case 15: case 16:
                return same("join(" + a + ")", model.join(a), y -> y.join(a));
            case 17:
                int setting = sometimesWrong(2);
                int value = below(3) > 0 ? below(4) : sometimesWrong(30) + 1;
                return same("set(" + setting + ", " + value + ")",
                        model.set(setting, value), y -> y.set(setting, value));
            case 18:
                return same("perform()", model.perform(), y -> y.perform());
            case 19:
                return below(3) > 0 || same("undo()", model.undo(), y -> y.undo());
            case 20:
                return below(4) > 0 || same("keep()", model.keep(), y -> y.keep());
            case 21:
                return below(6) > 0 || same("restore()", model.restore(), y -> y.restore());
            default:
                return tell(a, b);
        }
    }

    private boolean tell(int a, int b) {
        int step = sometimesWrong(10);
        return same("way(" + a + ", " + step + ")", model.way(a, step), y -> y.way(a, step))
                && same("version(" + a + ", " + step + ")", model.version(a, step), y -> y.version(a, step))
                && same("common(" + a + ", " + b + ")", model.common(a, b), y -> y.common(a, b))
                && same("unlike(" + a + ", " + b + ")", model.unlike(a, b), y -> y.unlike(a, b))
                && same("stopped(" + step % 3 + ")", model.stopped(step % 3), y -> y.stopped(step % 3));
    }

    private String anOrder() {
        String[] words = {"ask ", "root ", "join ", "make ", "make ", "mix "};
        int word = below(words.length);
        int version = below(8) == 0 ? below(24) : below(model.count(0));
        StringBuilder order = new StringBuilder(words[word]).append(version);
        if (word == 3 || word == 4) {
            order.append(' ').append(below(8)).append(' ').append(below(10));
        } else if (word == 5) {
            order.append(' ').append(below(model.count(0))).append(' ').append(below(4));
            for (int cell = 4; cell < 8; cell++) {
                order.append(below(2) == 0 ? "" : String.valueOf(cell));
            }
        }
        return order.toString();
    }

    private boolean typeText() {
        StringBuilder text = new StringBuilder(anOrder());
        for (int more = below(7); more > 0; more--) {
            text.append(';').append(anOrder());
        }
        String signs = " ;0123456789makeixsrootjin";
        if (below(2) == 0) {
            text.setCharAt(below(text.length()), signs.charAt(below(signs.length())));
        } else if (below(4) == 0) {
            text.insert(below(text.length()), signs.charAt(below(signs.length())));
        } else if (below(4) == 0) {
            text.setLength(below(text.length()));
        }
        boolean good = same("clearText()", model.clearText(), y -> y.clearText());
        for (int i = 0; i < text.length() && good; i++) {
            char sign = text.charAt(i);
            good = same("type('" + sign + "')", model.type(sign), y -> y.type(sign));
        }
        return good && same("perform()", model.perform(), y -> y.perform());
    }

    private boolean allIsTold() {
        boolean good = true;
        for (int number = -1; number <= 15 && good; number++) {
            int what = number;
            good = toldBehind("count(" + what + ")", model.count(what), y -> y.count(what));
        }
        for (int number = -1; number <= 24 && good; number++) {
            int version = number;
            good = toldBehind("ifRoot(" + version + ")", model.ifRoot(version), y -> y.ifRoot(version))
                    && toldBehind("bestRoot(" + version + ")",
                            model.bestRoot(version), y -> y.bestRoot(version))
                    && toldBehind("ifCut(" + version + ")", model.ifCut(version), y -> y.ifCut(version));
            for (int second = -1; second <= 24 && good; second++) {
                good = allIsTold(version, second);
            }
        }
        return good;
    }

    private boolean allIsTold(int version, int i) {
        String arguments = "(" + version + ", " + i + ")";
        return toldBehind("cell" + arguments, model.cell(version, i), y -> y.cell(version, i))
                && toldBehind("version" + arguments, model.version(version, i), y -> y.version(version, i))
                && toldBehind("way" + arguments, model.way(version, i), y -> y.way(version, i))
                && toldBehind("unlike" + arguments, model.unlike(version, i), y -> y.unlike(version, i))
                && toldBehind("common" + arguments, model.common(version, i), y -> y.common(version, i));
    }
}
