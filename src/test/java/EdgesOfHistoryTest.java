/** Promises 14 to 16, sentence by sentence: what is kept last, what is dropped first, and refusals. */
public final class EdgesOfHistoryTest {
    private static final int UNKNOWN = -1;
    private static final int NONE = -5;

    private static final Check check = new Check();

    public static void main(String[] args) {
        undoEmpty();
        undoCounts();
        undoOldestIsDropped();
        undoBehindUndo();
        undoRemovesTheLatest();
        undoLeavesTheRest();
        undoIsNoAct();
        refusedRecordsNothing();
        keepEmptyAndFull();
        keepInPlaceOfTheElder();
        keepIsNoAct();
        keepIsACopy();
        restoreNone();
        restoreEmptyAndFull();
        restoreStays();
        restoreLeavesTheRest();
        restoreBringsAllBack();
        restoreIsAnAct();
        check.end();
    }

    private static void undoEmpty() {
        check.test("promise 14: undo, NONE if the history is empty, nothing is changed");
        Whole.refused(check, NONE, Runs::nothing, RootedDeltas::undo);
        Whole.refused(check, NONE, RootedDeltas::keep, RootedDeltas::undo);
        Whole.refused(check, NONE, Runs.written(Runs::nothing, "ask 0"), RootedDeltas::undo);
        Whole.refused(check, NONE, Runs.performed("ask 1"), RootedDeltas::undo);
        Runs.Run undone = Runs.then(Runs.then(Runs::nothing, x -> x.ask(0)), RootedDeltas::undo);
        Whole.refused(check, NONE, undone, RootedDeltas::undo);
        Runs.Run busy = x -> {
            Runs.busy(x);
            for (int i = 0; i < 4; i++) {
                x.undo();
            }
        };
        Whole.refused(check, NONE, busy, RootedDeltas::undo);
    }

    private static void undoCounts() {
        check.test("promise 14: undo returns the number of states that are left: 3 down to 0");
        for (int acts = 1; acts <= 6; acts++) {
            RootedDeltas x = new RootedDeltas();
            for (int act = 1; act <= acts; act++) {
                x.ask(0);
                check.due(Math.min(act, 4), x.count(13));
            }
            for (int left = Math.min(acts, 4) - 1; left >= 0; left--) {
                check.due(left, x.undo());
                check.due(left, x.count(13));
            }
            check.due(NONE, x.undo());
            check.due(Math.max(acts - 4, 0), x.count(3));
        }
    }

    private static void undoOldestIsDropped() {
        check.test("promise 14: of four states none is dropped: the first one is found again");
        RootedDeltas x = Runs.behind(Runs.star(4));
        check.due(4, x.count(13));
        for (int left = 3; left >= 0; left--) {
            check.due(left, x.undo());
            check.due(left + 1, x.count(0));
        }
        check.due(1, x.count(0));

        check.test("promise 14: of five states the oldest one is dropped");
        RootedDeltas y = Runs.behind(Runs.star(5));
        check.due(4, y.count(13));
        for (int left = 3; left >= 0; left--) {
            check.due(left, y.undo());
            check.due(left + 2, y.count(0));
        }
        check.due(NONE, y.undo());
        check.due(2, y.count(0));

        check.test("promise 14: of 23 states the latest four are kept");
        RootedDeltas z = Runs.behind(Runs.star(23));
        for (int left = 3; left >= 0; left--) {
            check.due(left, z.undo());
            check.due(left + 20, z.count(0));
        }
        check.due(NONE, z.undo());
        check.due(20, z.count(0));
        check.due(3, z.cell(19, 3));
        check.due(UNKNOWN, z.cell(20, 3));
    }

    private static void undoBehindUndo() {
        check.test("promise 14: undo, states recorded behind it take the place of those it removed");
        RootedDeltas x = Runs.behind(Runs.star(6));
        x.undo();
        x.undo();
        check.due(2, x.count(13));
        x.make(0, 7, 7);
        x.ask(5);
        check.due(4, x.count(13));
        x.set(0, 0);
        check.due(4, x.count(13));
        check.due(3, x.undo());
        check.due(1, x.count(10));
        check.due(5, x.version(0, 3));
        check.due(2, x.undo());
        check.due(0, x.version(0, 3));
        check.due(7, x.cell(5, 7));
        check.due(1, x.undo());
        check.due(UNKNOWN, x.cell(5, 7));
        check.due(5, x.count(0));
        check.due(0, x.undo());
        check.due(4, x.count(0));
        check.due(NONE, x.undo());
    }

    private static void undoRemovesTheLatest() {
        check.test("promise 14: undo removes the state: a further one restores the one before it");
        RootedDeltas x = new RootedDeltas();
        x.set(1, 1);
        x.set(1, 2);
        x.set(1, 3);
        check.due(2, x.undo());
        check.due(2, x.count(11));
        check.due(1, x.undo());
        check.due(1, x.count(11));
        check.due(0, x.undo());
        check.due(6, x.count(11));
    }

    private static void undoLeavesTheRest() {
        check.test("promise 14: undo leaves the text, the snapshot and the latest stop");
        RootedDeltas x = Runs.behind(Runs::busy);
        check.due(12, x.count(14));
        check.due(3, x.undo());
        check.due(12, x.count(14));
        check.due(1, x.stopped(0));
        check.due(-4, x.stopped(1));
        x.undo();
        x.undo();
        check.due(0, x.undo());
        check.due(5, x.restore());
        check.due(2, x.perform());

        check.test("promise 14: undo of what was done ahead of keep() leaves the snapshot");
        RootedDeltas y = new RootedDeltas();
        y.make(0, 0, 1);
        check.due(2, y.keep());
        check.due(0, y.undo());
        check.due(1, y.count(0));
        check.due(2, y.restore());
        check.due(1, y.cell(1, 0));
    }

    private static void undoIsNoAct() {
        check.test("promise 14: undo is no act: it records nothing");
        RootedDeltas x = Runs.behind(Runs.star(2));
        check.due(1, x.undo());
        check.due(1, x.count(13));
        check.due(0, x.undo());
        check.due(0, x.count(13));
        check.due(NONE, x.undo());
        check.due(1, x.count(0));
    }

    private static void refusedRecordsNothing() {
        check.test("promise 14: a call that returns an error or NONE records no state");
        RootedDeltas x = new RootedDeltas();
        Runs.Call[] refused = {
            y -> y.make(1, 0, 0), y -> y.make(0, 0, 10), y -> y.mix(0, 1, 1), y -> y.mix(0, 0, 0),
            y -> y.remove(0), y -> y.remove(1), y -> y.ask(1), y -> y.root(0), y -> y.root(1),
            y -> y.cut(0), y -> y.cut(1), y -> y.join(0), y -> y.join(1), y -> y.set(0, 1),
            y -> y.set(2, 0), y -> y.set(1, 0), RootedDeltas::perform, RootedDeltas::restore,
            y -> Check.perform(y, "join 0"), y -> Check.perform(y, "join"),
        };
        for (Runs.Call call : refused) {
            check.yes("it is done", call.on(x) < 0);
            check.due(0, x.count(13));
        }
        check.due(NONE, x.undo());
    }

    private static void keepEmptyAndFull() {
        check.test("promise 15: keep returns how many versions there are: 1 to 24");
        for (int last = 0; last <= 23; last++) {
            RootedDeltas x = Runs.behind(Runs.star(last));
            check.due(last + 1, x.keep());
            x.ask(last);
            check.due(last + 1, x.restore());
            check.due(0, x.count(3));
        }
    }

    private static void keepInPlaceOfTheElder() {
        check.test("promise 15: keep takes a snapshot in place of the one that was");
        RootedDeltas x = new RootedDeltas();
        check.due(1, x.keep());
        x.make(0, 0, 1);
        check.due(2, x.keep());
        x.make(0, 0, 2);
        check.due(3, x.keep());
        x.remove(2);
        x.remove(1);
        check.due(3, x.restore());
        x.undo();
        check.due(1, x.keep());
        x.make(0, 0, 3);
        check.due(1, x.restore());
        check.due(1, x.restore());
    }

    private static void keepIsNoAct() {
        check.test("promise 15: keep is no act: it records nothing and changes no state");
        RootedDeltas x = new RootedDeltas();
        x.keep();
        x.keep();
        check.due(0, x.count(13));
        check.due(NONE, x.undo());
        Runs.Run kept = Runs.then(Runs::busy, RootedDeltas::keep);
        check.same("the state", Whole.state(Runs::busy), Whole.state(kept));
        check.same("the stop", Whole.stop(Runs::busy), Whole.stop(kept));
    }

    private static void keepIsACopy() {
        check.test("promise 15: keep, acts behind it leave the snapshot as it was taken");
        Runs.Run kept = Runs.then(Runs::busy, RootedDeltas::keep);
        Runs.Run later = x -> {
            kept.on(x);
            x.make(4, 3, 3);
            x.join(2);
            x.ask(2);
            x.root(0);
            x.cut(1);
            x.set(0, 2);
            x.remove(4);
            x.undo();
            x.undo();
            x.restore();
        };
        check.same("the state", Whole.stateAlone(kept), Whole.stateAlone(later));
    }

    private static void restoreNone() {
        check.test("promise 16: restore, NONE if there is no snapshot, nothing is changed");
        Whole.refused(check, NONE, Runs::nothing, RootedDeltas::restore);
        Whole.refused(check, NONE, Runs::full, RootedDeltas::restore);
        Whole.refused(check, NONE, Runs.performed("ask 0;ask 1"), RootedDeltas::restore);
    }

    private static void restoreEmptyAndFull() {
        check.test("promise 16: restore returns how many versions there are then: 1 and 24");
        RootedDeltas x = new RootedDeltas();
        x.keep();
        Runs.star(23).on(x);
        check.due(24, x.count(0));
        check.due(1, x.restore());
        check.due(1, x.count(0));
        check.due(1, x.make(0, 0, 1));
        check.due(3, x.undo());
        check.due(2, x.undo());
        check.due(24, x.count(0));
        check.due(24, x.keep());
        x.remove(23);
        check.due(24, x.restore());
        check.due(-3, x.make(0, 0, 1));
    }

    private static void restoreStays() {
        check.test("promise 16: restore, the snapshot stays, however often it is restored");
        Runs.Run once = Runs.then(Runs::busy, RootedDeltas::restore);
        Runs.Run often = x -> {
            once.on(x);
            for (int times = 0; times < 6; times++) {
                x.ask(2);
                x.make(times, 1, times);
                x.restore();
            }
        };
        check.same("the state", Whole.stateAlone(once), Whole.stateAlone(often));
    }

    private static void restoreLeavesTheRest() {
        check.test("promise 16: restore leaves the text, the history and the latest stop");
        RootedDeltas x = Runs.behind(Runs::busy);
        check.due(5, x.restore());
        check.due(12, x.count(14));
        check.due(1, x.stopped(0));
        check.due(-4, x.stopped(1));
        check.due(4, x.count(13));
        check.due(2, x.perform());

        check.test("promise 16: restore does not bring back the text or the history of the snapshot");
        RootedDeltas y = new RootedDeltas();
        Check.write(y, "ask 0");
        y.ask(0);
        y.ask(0);
        y.keep();
        y.clearText();
        y.undo();
        y.undo();
        check.due(1, y.restore());
        check.due(2, y.count(3));
        check.due(0, y.count(14));
        check.due(1, y.count(13));
        check.due(0, y.undo());
        check.due(0, y.count(3));
        check.due(NONE, y.undo());
    }

    private static void restoreBringsAllBack() {
        check.test("promise 16: a state is everything else: versions, trees, settings, accounts");
        Runs.Run kept = Runs.then(Runs::busy, RootedDeltas::keep);
        Runs.Call[] acts = {
            x -> x.make(2, 5, 5), x -> x.mix(4, 2, 255), x -> x.remove(4), x -> x.ask(1), x -> x.ask(4),
            x -> x.root(0), x -> x.cut(1), x -> x.join(2), x -> x.set(0, 2), x -> x.set(1, 1),
        };
        String want = Whole.stateAlone(kept);
        for (Runs.Call act : acts) {
            Runs.Run other = Runs.then(kept, act);
            check.yes("the act did nothing", !want.equals(Whole.stateAlone(other)));
            check.same("the state", want, Whole.stateAlone(Runs.then(other, RootedDeltas::restore)));
            check.same("the state", want, Whole.stateAlone(Runs.then(other, RootedDeltas::undo)));
        }
    }

    private static void restoreIsAnAct() {
        check.test("promise 16: restore is an act, even if the state is that of the snapshot");
        Whole.isAnAct(check, 1, RootedDeltas::keep, RootedDeltas::restore);
        Whole.isAnAct(check, 5, Runs::busy, RootedDeltas::restore);
        Whole.isAnAct(check, 4, Runs.then(Runs::busy, RootedDeltas::keep), RootedDeltas::restore);
        Whole.isAnAct(check, 24, Runs.then(Runs::full, RootedDeltas::keep), RootedDeltas::restore);
    }
}
