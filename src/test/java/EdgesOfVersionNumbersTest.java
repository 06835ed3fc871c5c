import java.util.Set;

/** Each argument of which the document says "a version": which ones there are, and which not. */
public final class EdgesOfVersionNumbersTest {
    private static final int UNKNOWN = -1;
    private static final Check check = new Check();

    /** Beyond a row of versions, or such as come to lie in it by an overflow. */
    private static final int[] FAR = {
        Integer.MIN_VALUE, Integer.MIN_VALUE + 1, -256, -64, -33, -32, -31, -24, -8, 25, 31, 32, 33,
        36, 55, 63, 64, 65, 128, 256, 1 << 16, 1 << 29, (1 << 29) + 1, 1 << 30, 1 << 31,
        Integer.MAX_VALUE - 1, Integer.MAX_VALUE,
    };

    private interface ByVersion {
        int on(RootedDeltas x, int version);
    }

    public static void main(String[] args) {
        argument("promise 2: make, `source`", (x, version) -> x.make(version, 0, 5));
        argument("promise 3: mix, `source`", (x, version) -> x.mix(version, 0, 1));
        argument("promise 3: mix, `other`", (x, version) -> x.mix(0, version, 1));
        argument("promise 4: remove, `version`", RootedDeltas::remove);
        argument("promise 5: ask, `version`", RootedDeltas::ask);
        argument("promise 6: root, `version`", RootedDeltas::root);
        argument("promise 7: cut, `version`", RootedDeltas::cut);
        argument("promise 8: join, `version`", RootedDeltas::join);
        argument("promise 17: cell, `version`", (x, version) -> x.cell(version, 0));
        for (int what = 0; what <= 9; what++) {
            int told = what;
            argument("promise 18: version, `version`, " + what, (x, version) -> x.version(version, told));
        }
        argument("promise 19: way, `version`", (x, version) -> x.way(version, 0));
        argument("promise 20: unlike, `one`", (x, version) -> x.unlike(version, 0));
        argument("promise 20: unlike, `other`", (x, version) -> x.unlike(0, version));
        argument("promise 21: common, `one`", (x, version) -> x.common(version, 0));
        argument("promise 21: common, `other`", (x, version) -> x.common(0, version));
        argument("promise 22: ifRoot, `version`", RootedDeltas::ifRoot);
        argument("promise 23: bestRoot, `version`", RootedDeltas::bestRoot);
        argument("promise 24: ifCut, `version`", RootedDeltas::ifCut);
        check.end();
    }

    private static void argument(String name, ByVersion call) {
        check.test(name + ": the only one of a new object");
        holds(call, Runs::nothing, Set.of(0), 2);
        check.test(name + ": the lowest, the highest, and a number that is free between them");
        holds(call, Runs::busy, Set.of(0, 1, 2, 4), 7);
        check.test(name + ": 0 and 23 of 24");
        holds(call, Runs::full, Set.of(0, 1, 11, 12, 22, 23), 0);
        check.test(name + ": UNKNOWN changes nothing");
        Whole.refusedAnywhere(check, UNKNOWN, x -> call.on(x, -1));
        Whole.refusedAnywhere(check, UNKNOWN, x -> call.on(x, 24));
        Whole.refused(check, UNKNOWN, Runs::nothing, x -> call.on(x, 1));
        Whole.refused(check, UNKNOWN, Runs::busy, x -> call.on(x, 3));
        Whole.refused(check, UNKNOWN, Runs::busy, x -> call.on(x, 5));
        for (int version : FAR) {
            Whole.refused(check, UNKNOWN, Runs::full, x -> call.on(x, version));
        }
    }

    /** Those there are are never UNKNOWN; of -1 up to below a bound, and far ones, no other one is. */
    private static void holds(ByVersion call, Runs.Run run, Set<Integer> there, int bound) {
        for (int version : there) {
            int answer = call.on(Runs.behind(run), version);
            check.yes("UNKNOWN for " + version, answer != UNKNOWN);
        }
        for (int version = -1; version < bound; version++) {
            if (!there.contains(version)) {
                check.due(UNKNOWN, call.on(Runs.behind(run), version));
            }
        }
        for (int version : FAR) {
            check.due(UNKNOWN, call.on(Runs.behind(run), version));
        }
    }
}
