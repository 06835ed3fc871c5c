/** Promises 5 to 9: ask, root, cut, join, set. */
public final class AskingTest {
    private static final Check check = new Check();

    public static void main(String[] args) {
        askMoves();
        askStays();
        askMoreOften();
        askCuts();
        askCutsUpwards();
        askCutsTheMadeOne();
        askWrongly();
        root();
        rootWrongly();
        cut();
        cutWrongly();
        join();
        joinWrongly();
        set();
        setWrongly();
        check.end();
    }

    /** Versions 0 to last, each made of the one before it, one cell unlike. */
    private static RootedDeltas chain(int last) {
        RootedDeltas x = new RootedDeltas();
        for (int version = 1; version <= last; version++) {
            x.make(version - 1, version % 8, version % 9 + 1);
        }
        return x;
    }

    private static void askMoves() {
        check.test("promise 5: ask, the rule 1");
        RootedDeltas x = chain(3);
        x.mix(3, 0, 0x0c);
        check.due(2, x.version(4, 5) - x.version(3, 5));
        check.due(6, x.ask(4));
        check.due(4, x.version(0, 3));
        check.due(1, x.ask(4));
        check.due(1, x.count(8));
        check.due(6, x.ask(0));
        check.due(2, x.count(8));
        check.due(0, x.count(9));
        check.due(0, x.version(4, 3));
        check.due(13, x.count(4));
        check.due(3, x.count(3));
        check.due(2, x.version(4, 6));
        check.due(4, x.count(13));
        check.due(3, x.count(5));
    }

    private static void askStays() {
        check.test("promise 5: ask, the rule 0");
        RootedDeltas x = chain(2);
        x.set(0, 0);
        check.due(3, x.ask(2));
        check.due(3, x.ask(2));
        check.due(0, x.version(2, 3));
        check.due(0, x.count(8));
        x.set(1, 1);
        check.due(2, x.ask(1));
        check.due(0, x.count(9));
        check.due(3, x.ask(2));
        check.due(1, x.count(9));
        check.due(2, x.version(2, 3));
        check.due(0, x.count(8));
    }

    private static void askMoreOften() {
        check.test("promise 5: ask, the rule 2");
        RootedDeltas x = chain(2);
        x.set(0, 2);
        check.due(1, x.ask(0));
        check.due(0, x.count(8));
        check.due(2, x.ask(1));
        check.due(0, x.version(1, 3));
        check.due(3, x.ask(2));
        check.due(0, x.version(1, 3));
        check.due(2, x.ask(1));
        check.due(1, x.version(0, 3));
        check.due(1, x.count(8));
        check.due(2, x.ask(2));
        check.due(1, x.version(0, 3));
        check.due(2, x.ask(2));
        check.due(2, x.version(0, 3));
        check.due(2, x.count(8));
        check.due(1, x.ask(2));
        check.due(2, x.count(8));
    }

    private static void askCuts() {
        check.test("promise 5: ask, a way that is too long");
        RootedDeltas x = chain(8);
        check.due(7, x.ask(6));
        check.due(0, x.count(9));
        check.due(6, x.version(0, 3));
        check.due(6, x.root(0));
        check.due(8, x.ask(7));
        check.due(1, x.count(9));
        check.due(0, x.version(7, 1));
        check.due(7, x.version(8, 3));
        check.due(7, x.version(7, 3));
        check.due(0, x.version(6, 3));
        check.due(2, x.count(1));
        check.due(1, x.count(6));
        check.due(1, x.count(8));
        check.due(2 * 8 + 7 * 3, x.count(2));
        check.due(1, x.version(7, 6));
        check.due(15, x.count(4));
    }

    private static void askCutsUpwards() {
        check.test("promise 5: ask, a way upwards that is too long");
        RootedDeltas x = chain(3);
        x.make(0, 7, 7);
        x.make(1, 7, 7);
        x.root(3);
        x.set(1, 2);
        check.due(4, x.ask(0));
        check.due(0, x.version(1, 1));
        check.due(0, x.version(0, 3));
        check.due(0, x.version(4, 3));
        check.due(3, x.version(1, 3));
        check.due(3, x.version(5, 3));
        check.due(1, x.count(9));
        check.due(0, x.count(8));
        check.due(4, x.ask(5));
        check.due(0, x.version(5, 1));
        check.due(1, x.version(2, 1));
        check.due(5, x.version(5, 3));
        check.due(3, x.count(1));
    }

    private static void askCutsTheMadeOne() {
        check.test("promise 5: ask, which difference is the last of the way");
        RootedDeltas x = chain(4);
        x.root(4);
        x.set(1, 2);
        check.due(4, x.ask(1));
        check.due(0, x.version(2, 1));
        check.due(1, x.version(1, 1));
        check.due(1, x.version(0, 3));
        check.due(4, x.version(2, 3));

        RootedDeltas y = new RootedDeltas();
        y.make(0, 0, 1);
        y.make(0, 0, 2);
        y.root(2);
        y.set(1, 1);
        check.due(3, y.ask(1));
        check.due(0, y.version(1, 1));
        check.due(1, y.version(2, 1));
        check.due(1, y.version(1, 3));
        check.due(2, y.version(0, 3));
    }

    private static void askWrongly() {
        check.test("promise 5: ask, wrong inputs");
        RootedDeltas x = chain(2);
        String before = Check.state(x);
        check.due(RootedDeltas.UNKNOWN, x.ask(3));
        check.due(RootedDeltas.UNKNOWN, x.ask(-1));
        check.due(RootedDeltas.UNKNOWN, x.ask(32));
        check.due(RootedDeltas.UNKNOWN, x.ask(Integer.MAX_VALUE));
        check.due(2, x.count(13));
        check.same("the state", before, Check.state(x));
    }

    private static void root() {
        check.test("promise 6: root");
        RootedDeltas x = chain(4);
        check.due(4, x.root(4));
        check.due(4, x.version(0, 3));
        check.due(4, x.version(0, 4));
        check.due(2, x.root(2));
        check.due(2, x.version(4, 3));
        check.due(1, x.count(1));
        check.due(0, x.count(8));
        check.due(0, x.count(3));
        x.cut(3);
        check.due(1, x.root(4));
        check.due(2, x.version(0, 3));
        check.due(4, x.version(3, 3));
        check.due(4, x.count(13));
    }

    private static void rootWrongly() {
        check.test("promise 6: root, wrong inputs");
        RootedDeltas x = chain(2);
        x.root(1);
        String before = Check.state(x);
        check.due(RootedDeltas.NONE, x.root(1));
        check.due(RootedDeltas.UNKNOWN, x.root(3));
        check.due(RootedDeltas.UNKNOWN, x.root(-5));
        check.due(RootedDeltas.UNKNOWN, x.root(33));
        check.due(3, x.count(13));
        check.same("the state", before, Check.state(x));
    }

    private static void cut() {
        check.test("promise 7: cut");
        RootedDeltas x = chain(4);
        check.due(2, x.cut(3));
        check.due(3, x.version(4, 3));
        check.due(0, x.version(2, 3));
        x.root(2);
        check.due(3, x.cut(1));
        check.due(0, x.version(0, 3));
        check.due(2, x.version(1, 3));
        check.due(3, x.count(1));
        check.due(2, x.count(6));
        check.due(3 * 8 + 2 * 3, x.count(2));
        check.due(0, x.count(9));
        check.due(2, x.version(3, 0));
        check.due(4, x.count(13));
    }

    private static void cutWrongly() {
        check.test("promise 7: cut, wrong inputs");
        RootedDeltas x = chain(2);
        x.cut(2);
        String before = Check.state(x);
        check.due(RootedDeltas.NONE, x.cut(2));
        check.due(RootedDeltas.NOT_POSSIBLE, x.cut(0));
        check.due(RootedDeltas.UNKNOWN, x.cut(3));
        check.due(RootedDeltas.UNKNOWN, x.cut(-1));
        check.due(RootedDeltas.UNKNOWN, x.cut(24));
        check.due(3, x.count(13));
        check.same("the state", before, Check.state(x));
    }

    private static void join() {
        check.test("promise 8: join");
        RootedDeltas x = chain(4);
        x.cut(3);
        x.root(4);
        x.root(1);
        check.due(1, x.join(3));
        check.due(1, x.version(4, 3));
        check.due(3, x.version(4, 4));
        check.due(1, x.version(3, 1));
        check.due(8 + 4 * 3, x.count(2));
        x.cut(2);
        x.cut(4);
        check.due(2, x.join(4));
        check.due(2, x.version(4, 3));
        check.due(1, x.join(2));
        check.due(0, x.count(6));
    }

    private static void joinWrongly() {
        check.test("promise 8: join, wrong inputs");
        RootedDeltas x = chain(2);
        String before = Check.state(x);
        check.due(RootedDeltas.NONE, x.join(2));
        check.due(RootedDeltas.NOT_POSSIBLE, x.join(0));
        check.due(RootedDeltas.UNKNOWN, x.join(3));
        check.due(RootedDeltas.UNKNOWN, x.join(-1));
        check.due(RootedDeltas.UNKNOWN, x.join(24));
        check.due(2, x.count(13));
        check.same("the state", before, Check.state(x));
    }

    private static void set() {
        check.test("promise 9: set");
        RootedDeltas x = new RootedDeltas();
        check.due(1, x.set(0, 2));
        check.due(2, x.set(0, 0));
        check.due(0, x.count(10));
        check.due(6, x.set(1, 30));
        check.due(30, x.set(1, 1));
        check.due(1, x.count(11));
        check.due(4, x.count(13));
        check.due(3, x.undo());
        check.due(30, x.count(11));

        RootedDeltas y = new RootedDeltas();
        check.due(1, y.set(0, 0));
        check.due(0, y.set(0, 1));
        check.due(2, y.count(13));
        check.due(1, y.undo());
        check.due(0, y.count(10));
    }

    private static void setWrongly() {
        check.test("promise 9: set, wrong inputs");
        RootedDeltas x = new RootedDeltas();
        check.due(RootedDeltas.NONE, x.set(0, 1));
        check.due(RootedDeltas.NONE, x.set(1, 6));
        check.due(RootedDeltas.UNKNOWN, x.set(2, 1));
        check.due(RootedDeltas.UNKNOWN, x.set(-1, 99));
        check.due(RootedDeltas.BAD_VALUE, x.set(0, 3));
        check.due(RootedDeltas.BAD_VALUE, x.set(0, -1));
        check.due(RootedDeltas.BAD_VALUE, x.set(1, 0));
        check.due(RootedDeltas.BAD_VALUE, x.set(1, 31));
        check.due(1, x.count(10));
        check.due(6, x.count(11));
        check.due(0, x.count(13));
    }
}
