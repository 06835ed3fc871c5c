/** Promises 17 to 25: cell, version, way, unlike, common, ifRoot, bestRoot, ifCut, count. */
public final class ToldTest {
    private static final Check check = new Check();

    public static void main(String[] args) {
        constants();
        cell();
        version();
        versionOfZero();
        versionWrongly();
        way();
        unlike();
        common();
        ifRoot();
        bestRoot();
        ifCut();
        counts();
        countWrongly();
        nothingIsChanged();
        check.end();
    }

    /** 0, 1 of 0, 2 of 1, 3 of 1, 4 of 3 by a mix, 5 of 0; unlike in 1, 1, 1, 2 and 0 cells. */
    private static RootedDeltas bush() {
        RootedDeltas x = new RootedDeltas();
        x.make(0, 0, 1);
        x.make(1, 1, 2);
        x.make(1, 2, 3);
        x.mix(3, 2, 6);
        x.make(0, 5, 0);
        return x;
    }

    private static void constants() {
        check.test("the constants");
        check.due(-1, RootedDeltas.UNKNOWN);
        check.due(-2, RootedDeltas.BAD_VALUE);
        check.due(-3, RootedDeltas.FULL);
        check.due(-4, RootedDeltas.NOT_POSSIBLE);
        check.due(-5, RootedDeltas.NONE);
    }

    private static void cell() {
        check.test("promise 17: cell");
        RootedDeltas x = bush();
        check.due(1, x.cell(4, 0));
        check.due(2, x.cell(4, 1));
        check.due(0, x.cell(4, 2));
        check.due(0, x.cell(0, 7));
        check.due(RootedDeltas.UNKNOWN, x.cell(6, 0));
        check.due(RootedDeltas.UNKNOWN, x.cell(-1, 0));
        check.due(RootedDeltas.UNKNOWN, x.cell(24, 0));
        check.due(RootedDeltas.UNKNOWN, x.cell(32, 0));
        check.due(RootedDeltas.UNKNOWN, x.cell(1, 8));
        check.due(RootedDeltas.UNKNOWN, x.cell(1, -1));
        check.due(RootedDeltas.UNKNOWN, x.cell(0, Integer.MIN_VALUE));
    }

    private static void told(RootedDeltas x, int version, int... want) {
        for (int what = 0; what < want.length; what++) {
            int got = x.version(version, what);
            if (got != want[what]) {
                check.fail("version(" + version + ", " + what + ") answered " + got);
            }
        }
    }

    private static void version() {
        check.test("promise 18: version");
        RootedDeltas x = bush();
        told(x, 1, 0, 1, 1, 0, 1, 1, 0, 2, 6, 2);
        told(x, 4, 3, 1, 6, 0, 3, 4, 0, 0, 6, 5);
        told(x, 5, 0, 1, 0, 0, 1, 0, 0, 0, 6, 1);
        x.ask(4);
        told(x, 4, 3, 1, 6, 4, 0, 0, 1, 0, 6, 1);
        told(x, 5, 0, 1, 0, 4, 4, 4, 0, 0, 6, 5);
        told(x, 2, 1, 1, 2, 4, 3, 4, 0, 0, 6, 5);
        x.cut(3);
        told(x, 3, 1, 0, 4, 4, 1, 2, 0, 1, 2, 3);
        told(x, 1, 0, 1, 1, 1, 0, 0, 0, 2, 4, 1);
        told(x, 5, 0, 1, 0, 1, 2, 1, 0, 0, 4, 2);
        x.ask(4);
        x.ask(4);
        check.due(3, x.version(4, 6));
    }

    private static void versionOfZero() {
        check.test("promise 18: version of 0");
        RootedDeltas x = new RootedDeltas();
        told(x, 0, RootedDeltas.NONE, 0, 0, 0, 0, 0, 0, 0, 1, 1);
        x = bush();
        x.root(2);
        told(x, 0, RootedDeltas.NONE, 0, 0, 2, 2, 2, 0, 2, 6, 3);
    }

    private static void versionWrongly() {
        check.test("promise 18: version, wrong inputs");
        RootedDeltas x = bush();
        check.due(RootedDeltas.UNKNOWN, x.version(6, 0));
        check.due(RootedDeltas.UNKNOWN, x.version(6, 10));
        check.due(RootedDeltas.UNKNOWN, x.version(-1, -1));
        check.due(RootedDeltas.UNKNOWN, x.version(33, 0));
        check.due(RootedDeltas.BAD_VALUE, x.version(0, 10));
        check.due(RootedDeltas.BAD_VALUE, x.version(5, -1));
        check.due(RootedDeltas.BAD_VALUE, x.version(5, Integer.MAX_VALUE));
    }

    private static void way() {
        check.test("promise 19: way");
        RootedDeltas x = bush();
        x.root(4);
        int[] way = {4, 3, 1, 0, 5};
        for (int step = 0; step < way.length; step++) {
            check.due(way[step], x.way(5, step));
        }
        check.due(RootedDeltas.NONE, x.way(5, 5));
        check.due(RootedDeltas.NONE, x.way(5, Integer.MAX_VALUE));
        check.due(2, x.way(2, 3));
        check.due(RootedDeltas.NONE, x.way(2, 4));
        check.due(4, x.way(4, 0));
        check.due(RootedDeltas.NONE, x.way(4, 1));
        check.due(RootedDeltas.BAD_VALUE, x.way(4, -1));
        check.due(RootedDeltas.BAD_VALUE, x.way(0, Integer.MIN_VALUE));
        check.due(RootedDeltas.UNKNOWN, x.way(6, -1));
        check.due(RootedDeltas.UNKNOWN, x.way(-1, 0));
        x.cut(1);
        check.due(0, x.way(5, 0));
        check.due(5, x.way(5, 1));
        check.due(4, x.way(1, 0));
    }

    private static void unlike() {
        check.test("promise 20: unlike");
        RootedDeltas x = bush();
        check.due(0, x.unlike(0, 5));
        check.due(2, x.unlike(3, 4));
        check.due(2, x.unlike(4, 3));
        check.due(2, x.unlike(2, 3));
        check.due(0, x.unlike(2, 4));
        check.due(0, x.unlike(3, 3));
        x.cut(1);
        check.due(2, x.unlike(0, 4));
        for (int cell = 0; cell < 8; cell++) {
            x.make(5 + cell, cell, 9);
        }
        check.due(8, x.unlike(0, 13));
        check.due(RootedDeltas.UNKNOWN, x.unlike(14, 0));
        check.due(RootedDeltas.UNKNOWN, x.unlike(0, 14));
        check.due(RootedDeltas.UNKNOWN, x.unlike(-1, 0));
        check.due(RootedDeltas.UNKNOWN, x.unlike(0, 24));
    }

    private static void common() {
        check.test("promise 21: common");
        RootedDeltas x = bush();
        check.due(1, x.common(2, 4));
        check.due(1, x.common(4, 2));
        check.due(0, x.common(4, 5));
        check.due(3, x.common(4, 3));
        check.due(3, x.common(3, 4));
        check.due(4, x.common(4, 4));
        check.due(0, x.common(0, 4));
        check.due(0, x.common(0, 0));
        x.root(2);
        x.cut(4);
        x.cut(1);
        check.due(1, x.common(2, 4));
        check.due(0, x.common(4, 5));
        check.due(RootedDeltas.UNKNOWN, x.common(6, 0));
        check.due(RootedDeltas.UNKNOWN, x.common(0, 6));
        check.due(RootedDeltas.UNKNOWN, x.common(0, -1));
        check.due(RootedDeltas.UNKNOWN, x.common(24, 0));

        RootedDeltas y = new RootedDeltas();
        y.make(0, 0, 1);
        y.make(0, 0, 2);
        y.make(2, 0, 3);
        y.remove(1);
        y.make(3, 0, 4);
        y.make(1, 0, 5);
        check.due(3, y.common(4, 3));
        check.due(1, y.common(4, 1));
        check.due(2, y.common(1, 2));
    }

    private static void ifRoot() {
        check.test("promise 22: ifRoot");
        RootedDeltas x = bush();
        check.due(0, x.ifRoot(3));
        x.ask(4);
        x.ask(4);
        x.ask(2);
        x.ask(5);
        check.due(2 * 5 + 3 + 1, x.ifRoot(0));
        check.due(2 * 1 + 5 + 5, x.ifRoot(4));
        check.due(2 * 5 + 1 + 3, x.ifRoot(2));
        check.due(2 * 3 + 3 + 3, x.ifRoot(3));
        x.cut(4);
        check.due(2, x.ifRoot(4));
        check.due(1 + 3, x.ifRoot(5));
        x.ask(0);
        check.due(1 + 3 + 1, x.ifRoot(5));
        check.due(2 + 2 + 2, x.ifRoot(1));
        x.remove(2);
        check.due(2, x.ifRoot(0));
        check.due(4, x.ifRoot(1));
        check.due(RootedDeltas.UNKNOWN, x.ifRoot(2));
        check.due(RootedDeltas.UNKNOWN, x.ifRoot(-1));
        check.due(RootedDeltas.UNKNOWN, x.ifRoot(24));
    }

    private static void bestRoot() {
        check.test("promise 23: bestRoot");
        RootedDeltas x = bush();
        check.due(0, x.bestRoot(4));
        x.ask(4);
        check.due(4, x.bestRoot(0));
        x.ask(2);
        check.due(1, x.bestRoot(0));
        x.ask(2);
        check.due(2, x.bestRoot(4));
        x.cut(1);
        check.due(0, x.bestRoot(5));
        x.ask(5);
        check.due(0, x.bestRoot(5));
        check.due(0, x.bestRoot(0));
        check.due(2, x.bestRoot(3));
        x.cut(3);
        check.due(4, x.bestRoot(3));
        check.due(2, x.bestRoot(1));
        check.due(RootedDeltas.UNKNOWN, x.bestRoot(6));
        check.due(RootedDeltas.UNKNOWN, x.bestRoot(-1));
        check.due(RootedDeltas.UNKNOWN, x.bestRoot(24));
    }

    private static void ifCut() {
        check.test("promise 24: ifCut");
        RootedDeltas x = bush();
        int room = 8 + 5 + 2 * 5;
        check.due(room, x.count(2));
        check.due(room + 8 - 3, x.ifCut(1));
        check.due(room + 8 - 5, x.ifCut(4));
        check.due(room + 8 - 1, x.ifCut(5));
        check.due(room, x.count(2));
        x.cut(4);
        check.due(room + 8 - 5, x.count(2));
        check.due(room, x.ifCut(4));
        check.due(room + 8 - 5 + 8 - 1, x.ifCut(5));
        check.due(RootedDeltas.NOT_POSSIBLE, x.ifCut(0));
        check.due(RootedDeltas.UNKNOWN, x.ifCut(6));
        check.due(RootedDeltas.UNKNOWN, x.ifCut(-1));
        check.due(RootedDeltas.UNKNOWN, x.ifCut(24));
    }

    private static void counted(RootedDeltas x, int... want) {
        for (int what = 0; what < want.length; what++) {
            int got = x.count(what);
            if (got != want[what]) {
                check.fail("count(" + what + ") answered " + got + ", due is " + want[what]);
            }
        }
    }

    private static void counts() {
        check.test("promise 25: count");
        RootedDeltas x = bush();
        counted(x, 6, 1, 23, 0, 0, 6, 0, 3, 0, 0, 1, 6, 4, 4, 0);
        x.ask(4);
        counted(x, 6, 1, 23, 1, 5, 5, 0, 4, 1, 0, 1, 6, 4, 4, 0);
        x.set(1, 3);
        x.ask(5);
        counted(x, 6, 2, 30, 2, 10, 4, 1, 3, 1, 1, 1, 3, 4, 4, 0);
        x.set(0, 0);
        x.type('a');
        x.remove(2);
        counted(x, 5, 2, 27, 2, 10, 3, 1, 3, 1, 1, 0, 3, 4, 4, 1);
        x.remove(4);
        counted(x, 4, 2, 22, 2, 10, 3, 1, 2, 1, 1, 0, 3, 3, 4, 1);
        x.undo();
        counted(x, 5, 2, 27, 2, 10, 3, 1, 3, 1, 1, 0, 3, 4, 3, 1);
        x.cut(1);
        x.cut(3);
        counted(x, 5, 4, 8 * 4 + 5, 2, 10, 3, 3, 1, 1, 1, 0, 3, 4, 4, 1);
    }

    private static void countWrongly() {
        check.test("promise 25: count, wrong inputs");
        RootedDeltas x = bush();
        check.due(RootedDeltas.BAD_VALUE, x.count(15));
        check.due(RootedDeltas.BAD_VALUE, x.count(-1));
        check.due(RootedDeltas.BAD_VALUE, x.count(Integer.MAX_VALUE));
        check.due(RootedDeltas.BAD_VALUE, x.count(Integer.MIN_VALUE));
    }

    private static void nothingIsChanged() {
        check.test("promises 17 to 25: telling changes nothing");
        for (int one = -1; one < 25; one++) {
            RootedDeltas x = bush();
            x.ask(4);
            x.cut(3);
            String before = Check.state(x);
            x.ifRoot(one);
            x.bestRoot(one);
            x.ifCut(one);
            for (int other = -1; other < 11; other++) {
                x.way(one, other);
                x.unlike(one, other);
                x.common(one, other);
                x.version(one, other);
            }
            check.same("the state", before, Check.state(x));
            check.due(4, x.count(13));
        }
    }
}
