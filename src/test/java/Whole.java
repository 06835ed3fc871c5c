/**
 * All that can be told behind a run of calls: the state, the states of the history, the snapshot,
 * the text, the latest stop. Most of it shows only by calls that change the object, and all of it
 * takes more than the 512 calls of one object: each part is told by an object of its own, on which
 * the run is done anew.
 */
final class Whole {
    private Whole() {
    }

    static String of(Runs.Run run) {
        return butTheStop(run) + stop(run);
    }

    /** For a perform() that is stopped: the latest stop is all that it may change. */
    static String butTheStop(Runs.Run run) {
        StringBuilder all = new StringBuilder();
        for (int times = 0; times <= 5; times++) {
            all.append("undone ").append(times).append('\n');
            appendState(all, undone(run, times));
        }
        Runs.Run restored = Runs.then(run, RootedDeltas::restore);
        all.append("restored, ").append(Runs.behind(run).restore()).append('\n');
        appendState(all, restored);
        RootedDeltas performing = Runs.behind(run);
        all.append("performed, ").append(performing.perform()).append('\n');
        appendState(all, Runs.then(run, RootedDeltas::perform));
        return all.toString();
    }

    static String stop(Runs.Run run) {
        RootedDeltas x = Runs.behind(run);
        return "stopped " + x.stopped(0) + ' ' + x.stopped(1) + '\n';
    }

    /** The state, with how many states the history has and how long the text is. */
    static String state(Runs.Run run) {
        StringBuilder all = new StringBuilder();
        appendState(all, run);
        return all.toString();
    }

    /** What undo() and restore() bring back: neither the history nor the text. */
    static String stateAlone(Runs.Run run) {
        StringBuilder all = new StringBuilder();
        appendCounts(all, run, 12);
        appendVersions(all, run);
        return all.toString();
    }

    /** Holds what a refused call left behind against what was before it, part by part. */
    static void refused(Check check, int want, Runs.Run run, Runs.Call call) {
        check.due(want, call.on(Runs.behind(run)));
        check.same("all behind the refused call", of(run), of(Runs.then(run, call)));
    }

    /** As refused(), behind a new object, one that is in use, and one of 24 versions. */
    static void refusedAnywhere(Check check, int want, Runs.Call call) {
        refused(check, want, Runs::nothing, call);
        refused(check, want, Runs::busy, call);
        refused(check, want, Runs::full, call);
    }

    /** An act records the state that was before it: undo() finds just that one, and four at most. */
    static void isAnAct(Check check, int want, Runs.Run run, Runs.Call act) {
        Runs.Run behind = Runs.then(run, act);
        int states = Runs.behind(run).count(13);
        check.due(want, act.on(Runs.behind(run)));
        check.due(Math.min(states + 1, 4), Runs.behind(behind).count(13));
        check.same("the state ahead of the act", stateAlone(run), stateAlone(undone(behind, 1)));
        int left = Math.min(states, 3);
        for (int times = 1; times <= left; times++) {
            check.same("a state of the history", stateAlone(undone(run, times)),
                    stateAlone(undone(behind, times + 1)));
        }
        check.due(RootedDeltas.NONE, Runs.behind(undone(behind, left + 1)).undo());
        check.due(Runs.behind(run).count(14), Runs.behind(behind).count(14));
    }

    private static Runs.Run undone(Runs.Run run, int times) {
        return x -> {
            run.on(x);
            for (int i = 0; i < times; i++) {
                x.undo();
            }
        };
    }

    private static void appendState(StringBuilder all, Runs.Run run) {
        appendCounts(all, run, 14);
        appendVersions(all, run);
    }

    private static void appendCounts(StringBuilder all, Runs.Run run, int last) {
        RootedDeltas x = Runs.behind(run);
        all.append("counts");
        for (int what = 0; what <= last; what++) {
            all.append(' ').append(x.count(what));
        }
        all.append('\n');
    }

    private static void appendVersions(StringBuilder all, Runs.Run run) {
        RootedDeltas tells = Runs.behind(run);
        RootedDeltas tellsCells = Runs.behind(run);
        for (int version = 0; version < 24; version++) {
            all.append(version).append(':');
            int last = tells.version(version, 0) == RootedDeltas.UNKNOWN ? -1 : 9;
            for (int what = 0; what <= last; what++) {
                all.append(' ').append(tells.version(version, what));
            }
            all.append(" cells");
            for (int cell = 0; cell < 8 && last > 0; cell++) {
                all.append(' ').append(tellsCells.cell(version, cell));
            }
            all.append('\n');
        }
    }
}
