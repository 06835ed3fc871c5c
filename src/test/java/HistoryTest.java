/** Promises 14 to 16: undo, keep, restore. */
public final class HistoryTest {
    private static final Check check = new Check();

    public static void main(String[] args) {
        undo();
        undoOfAccounts();
        undoOfEveryAct();
        oldestIsDropped();
        keep();
        restore();
        restoreIsAnAct();
        check.end();
    }

    private static void undo() {
        check.test("promise 14: undo");
        RootedDeltas x = new RootedDeltas();
        check.due(RootedDeltas.NONE, x.undo());
        x.make(0, 0, 5);
        x.ask(1);
        check.due(1, x.undo());
        check.due(0, x.count(3));
        check.due(0, x.count(4));
        check.due(0, x.count(8));
        check.due(0, x.version(1, 3));
        check.due(0, x.version(1, 6));
        check.due(0, x.undo());
        check.due(RootedDeltas.UNKNOWN, x.cell(1, 0));
        check.due(RootedDeltas.NONE, x.undo());
        x.type('a');
        x.keep();
        check.due(RootedDeltas.NONE, x.undo());
        check.due(1, x.count(14));
    }

    private static void undoOfAccounts() {
        check.test("promise 14: undo of the accounts");
        RootedDeltas x = new RootedDeltas();
        x.make(0, 0, 5);
        x.make(1, 0, 6);
        x.set(1, 1);
        check.due(3, x.ask(2));
        check.due(2, x.ask(1));
        check.due(1, x.count(9));
        check.due(1, x.count(8));
        check.due(3, x.undo());
        check.due(0, x.count(8));
        check.due(3, x.count(4));
        check.due(2, x.undo());
        check.due(0, x.count(9));
        check.due(0, x.count(3));
        check.due(1, x.count(1));
        check.due(1, x.version(2, 1));
        check.due(1, x.undo());
        check.due(6, x.count(11));
    }

    private static void undoOfEveryAct() {
        check.test("promise 14: undo of each act");
        for (int act = 0; act < 11; act++) {
            RootedDeltas x = new RootedDeltas();
            x.make(0, 0, 5);
            x.keep();
            x.make(1, 1, 5);
            x.make(2, 2, 5);
            x.set(1, 3);
            x.cut(2);
            check.due(4, x.count(13));
            String before = Check.state(x);
            doAct(x, act);
            check.yes("act " + act + " did nothing", !before.equals(Check.state(x)));
            check.due(4, x.count(13));
            check.due(3, x.undo());
            check.same("the state behind act " + act, before, Check.state(x));
            check.due(2, x.undo());
        }
    }

    private static void doAct(RootedDeltas x, int act) {
        switch (act) {
            case 0: x.make(0, 0, 1); break;
            case 1: x.mix(0, 1, 1); break;
            case 2: x.remove(3); break;
            case 3: x.ask(3); break;
            case 4: x.root(1); break;
            case 5: x.cut(1); break;
            case 6: x.join(2); break;
            case 7: x.set(0, 0); break;
            case 8: x.set(1, 1); break;
            case 9: Check.perform(x, "ask 0;ask 1"); break;
            default: x.restore(); break;
        }
    }

    private static void oldestIsDropped() {
        check.test("promise 14: four states at most");
        RootedDeltas x = new RootedDeltas();
        for (int version = 1; version <= 7; version++) {
            x.make(0, 0, version);
            check.due(Math.min(version, 4), x.count(13));
        }
        check.due(3, x.undo());
        check.due(7, x.count(0));
        check.due(2, x.undo());
        check.due(6, x.count(0));
        check.due(6, x.make(0, 0, 9));
        check.due(3, x.count(13));
        check.due(2, x.undo());
        check.due(1, x.undo());
        check.due(0, x.undo());
        check.due(4, x.count(0));
        check.due(3, x.cell(3, 0));
        check.due(RootedDeltas.NONE, x.undo());
    }

    private static void keep() {
        check.test("promise 15: keep");
        RootedDeltas x = new RootedDeltas();
        check.due(1, x.keep());
        x.make(0, 0, 4);
        check.due(1, x.restore());
        x.make(0, 0, 5);
        x.make(1, 0, 6);
        check.due(3, x.keep());
        check.due(4, x.count(13));
        x.remove(2);
        check.due(3, x.restore());
        check.due(6, x.cell(2, 0));
    }

    private static void restore() {
        check.test("promise 16: restore");
        RootedDeltas x = new RootedDeltas();
        check.due(RootedDeltas.NONE, x.restore());
        check.due(0, x.count(13));
        x.make(0, 0, 4);
        x.make(1, 1, 3);
        x.cut(1);
        x.ask(2);
        x.set(0, 2);
        x.set(1, 9);
        x.keep();
        String kept = Check.state(x);
        for (int round = 0; round < 3; round++) {
            x.set(0, 0);
            x.remove(2);
            x.join(1);
            x.ask(1);
            x.make(0, 3, round);
            Check.write(x, "ask");
            check.due(3, x.restore());
            check.same("the state", kept, Check.state(x));
            check.due(4, x.count(13));
            check.due(3, x.count(14));
        }
    }

    private static void restoreIsAnAct() {
        check.test("promise 16: restore is an act");
        RootedDeltas x = new RootedDeltas();
        x.keep();
        check.due(1, x.restore());
        check.due(1, x.count(13));
        x.make(0, 0, 4);
        check.due(1, x.restore());
        check.due(3, x.count(13));
        check.due(2, x.undo());
        check.due(2, x.count(0));
        check.due(1, x.restore());
        check.due(2, x.undo());
        check.due(1, x.undo());
        check.due(1, x.count(0));
    }
}
