/** Promises 1 to 4: a new object, make, mix, remove. */
public final class VersionsTest {
    private static final Check check = new Check();

    public static void main(String[] args) {
        newObject();
        make();
        makeWrongly();
        makeTooMany();
        mix();
        mixWrongly();
        remove();
        removeWrongly();
        lowestNumber();
        check.end();
    }

    private static void newObject() {
        check.test("promise 1: a new object");
        RootedDeltas x = new RootedDeltas();
        check.due(1, x.count(0));
        check.due(1, x.count(1));
        check.due(8, x.count(2));
        int[] zero = {3, 4, 6, 7, 8, 9, 13, 14};
        for (int what : zero) {
            check.due(0, x.count(what));
        }
        check.due(1, x.count(5));
        check.due(1, x.count(10));
        check.due(6, x.count(11));
        check.due(1, x.count(12));
        for (int cell = 0; cell < 8; cell++) {
            check.due(0, x.cell(0, cell));
        }
        check.due(0, x.version(0, 3));
        check.due(RootedDeltas.UNKNOWN, x.version(1, 3));
        check.due(RootedDeltas.NONE, x.undo());
        check.due(RootedDeltas.NONE, x.restore());
        check.due(RootedDeltas.NONE, x.stopped(0));
    }

    private static void make() {
        check.test("promise 2: make");
        RootedDeltas x = new RootedDeltas();
        check.due(1, x.make(0, 0, 5));
        check.due(2, x.make(1, 7, 9));
        check.due(3, x.make(1, 0, 5));
        check.due(4, x.make(2, 0, 0));
        check.due(5, x.cell(2, 0));
        check.due(9, x.cell(2, 7));
        check.due(0, x.cell(4, 0));
        check.due(9, x.cell(4, 7));
        check.due(1, x.version(2, 0));
        check.due(128, x.version(2, 2));
        check.due(0, x.version(3, 2));
        check.due(1, x.version(4, 2));
        check.due(1, x.version(3, 1));
        check.due(1, x.count(1));
        check.due(4, x.count(13));
        check.due(0, x.cell(0, 0));
    }

    private static void makeWrongly() {
        check.test("promise 2: make, wrong inputs");
        RootedDeltas x = new RootedDeltas();
        String before = Check.state(x);
        check.due(RootedDeltas.UNKNOWN, x.make(1, 0, 5));
        check.due(RootedDeltas.UNKNOWN, x.make(-1, 0, 5));
        check.due(RootedDeltas.UNKNOWN, x.make(24, 0, 5));
        check.due(RootedDeltas.UNKNOWN, x.make(32, 0, 5));
        check.due(RootedDeltas.UNKNOWN, x.make(Integer.MIN_VALUE, 0, 5));
        check.due(RootedDeltas.UNKNOWN, x.make(0, -1, 5));
        check.due(RootedDeltas.UNKNOWN, x.make(0, 8, 5));
        check.due(RootedDeltas.UNKNOWN, x.make(0, Integer.MAX_VALUE, 99));
        check.due(RootedDeltas.BAD_VALUE, x.make(0, 0, 10));
        check.due(RootedDeltas.BAD_VALUE, x.make(0, 0, -1));
        check.due(0, x.count(13));
        check.same("the state", before, Check.state(x));
    }

    private static void makeTooMany() {
        check.test("promises 2 and 3: 24 versions");
        RootedDeltas x = new RootedDeltas();
        for (int version = 1; version < 24; version++) {
            check.due(version, x.make(0, version % 8, version % 10));
        }
        check.due(24, x.count(0));
        check.due(RootedDeltas.FULL, x.make(0, 0, 1));
        check.due(RootedDeltas.FULL, x.mix(0, 1, 1));
        check.due(RootedDeltas.BAD_VALUE, x.make(0, 0, 10));
        check.due(RootedDeltas.BAD_VALUE, x.mix(0, 1, 256));
        check.due(RootedDeltas.UNKNOWN, x.make(24, 0, 10));
        check.due(RootedDeltas.UNKNOWN, x.mix(0, 24, 0));
        check.due(24, x.count(0));
        check.due(23, x.remove(7));
        check.due(7, x.mix(23, 0, 1));
        check.due(RootedDeltas.FULL, x.make(0, 0, 1));
    }

    private static void mix() {
        check.test("promise 3: mix");
        RootedDeltas x = new RootedDeltas();
        x.make(0, 0, 1);
        x.make(1, 3, 2);
        x.make(0, 3, 7);
        x.make(3, 7, 8);
        check.due(5, x.mix(2, 4, 1 << 3 | 1 << 7));
        int[] row = {1, 0, 0, 7, 0, 0, 0, 8};
        for (int cell = 0; cell < 8; cell++) {
            check.due(row[cell], x.cell(5, cell));
        }
        check.due(2, x.version(5, 0));
        check.due(1 << 3 | 1 << 7, x.version(5, 2));
        check.due(0, x.version(4, 7));
        check.due(1, x.version(2, 7));
        check.due(1, x.version(5, 1));
        check.due(6, x.mix(2, 4, 255));
        check.due(0, x.unlike(6, 4));
        check.due(7, x.mix(4, 4, 255));
        check.due(0, x.version(7, 2));
        check.due(8, x.mix(4, 2, 2));
        check.due(0, x.version(8, 2));
        check.due(4, x.count(13));
    }

    private static void mixWrongly() {
        check.test("promise 3: mix, wrong inputs");
        RootedDeltas x = new RootedDeltas();
        x.make(0, 0, 1);
        String before = Check.state(x);
        check.due(RootedDeltas.UNKNOWN, x.mix(2, 0, 1));
        check.due(RootedDeltas.UNKNOWN, x.mix(0, 2, 1));
        check.due(RootedDeltas.UNKNOWN, x.mix(-1, 0, 0));
        check.due(RootedDeltas.UNKNOWN, x.mix(0, 32, 0));
        check.due(RootedDeltas.BAD_VALUE, x.mix(1, 0, 0));
        check.due(RootedDeltas.BAD_VALUE, x.mix(1, 0, 256));
        check.due(RootedDeltas.BAD_VALUE, x.mix(1, 0, -1));
        check.due(1, x.count(13));
        check.same("the state", before, Check.state(x));
    }

    private static void remove() {
        check.test("promise 4: remove");
        RootedDeltas x = new RootedDeltas();
        x.make(0, 0, 1);
        x.make(1, 0, 2);
        x.make(1, 0, 3);
        x.ask(2);
        check.due(2, x.version(0, 3));
        check.due(3, x.remove(2));
        check.due(1, x.version(0, 3));
        check.due(1, x.version(3, 3));
        check.due(1, x.count(1));
        check.due(1, x.count(3));
        check.due(3, x.count(4));
        check.due(2, x.remove(3));
        check.due(1, x.version(0, 3));
        check.due(2, x.make(1, 0, 9));
        check.due(0, x.version(2, 6));

        check.due(2, x.cut(2));
        check.due(2, x.version(2, 3));
        check.due(2, x.remove(2));
        check.due(1, x.count(1));
        check.due(1, x.version(1, 3));
        check.due(0, x.count(6));
        check.due(8 + 3, x.count(2));
    }

    private static void removeWrongly() {
        check.test("promise 4: remove, wrong inputs");
        RootedDeltas x = new RootedDeltas();
        check.due(RootedDeltas.NOT_POSSIBLE, x.remove(0));
        x.make(0, 0, 1);
        x.make(1, 0, 2);
        x.mix(0, 2, 1);
        String before = Check.state(x);
        check.due(RootedDeltas.NOT_POSSIBLE, x.remove(0));
        check.due(RootedDeltas.NOT_POSSIBLE, x.remove(1));
        check.due(RootedDeltas.UNKNOWN, x.remove(4));
        check.due(RootedDeltas.UNKNOWN, x.remove(-1));
        check.due(RootedDeltas.UNKNOWN, x.remove(24));
        check.due(3, x.count(13));
        check.same("the state", before, Check.state(x));
        check.due(3, x.remove(2));
        check.due(4, x.count(13));
        check.due(2, x.remove(1));
    }

    private static void lowestNumber() {
        check.test("promises 2 and 3: the lowest number");
        RootedDeltas x = new RootedDeltas();
        for (int i = 0; i < 5; i++) {
            x.make(0, i, 1);
        }
        x.remove(4);
        x.remove(2);
        check.due(2, x.make(5, 0, 9));
        check.due(5, x.version(2, 0));
        check.due(4, x.mix(2, 0, 1));
        check.due(6, x.mix(2, 0, 1));
        check.due(3, x.version(4, 4));
    }
}
