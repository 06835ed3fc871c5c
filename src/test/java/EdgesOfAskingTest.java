/** Promises 5 to 9, sentence by sentence: what is allowed last, what is not first, and refusals. */
public final class EdgesOfAskingTest {
    private static final int UNKNOWN = -1;
    private static final int BAD_VALUE = -2;
    private static final int NOT_POSSIBLE = -4;
    private static final int NONE = -5;
    private static final int LEAST = Integer.MIN_VALUE;
    private static final int MOST = Integer.MAX_VALUE;

    private static final Check check = new Check();

    public static void main(String[] args) {
        askCosts();
        askStepsOfEachSetting();
        askStepsAtFirst();
        askStepsUpwards();
        askLastOfTheWay();
        askStepsThirty();
        askCutBehind();
        askCutWithEachRule();
        askRuleStays();
        askRuleMoves();
        askRuleMoreOften();
        askElderRoot();
        root();
        rootNone();
        rootLongest();
        cutGivesRoot();
        cutAll();
        cutRefused();
        joinRoots();
        joinAll();
        joinRefused();
        setWhich();
        setRule();
        setMostSteps();
        setNone();
        setOrderOfChecks();
        eachIsAnAct();
        check.end();
    }

    private static void askCosts() {
        check.test("promise 5: ask costs 1 for a root, and behind a way without cells");
        RootedDeltas x = new RootedDeltas();
        check.due(1, x.ask(0));
        x.make(0, 4, 0);
        check.due(1, x.ask(1));
        check.due(1, x.version(0, 3));

        check.test("promise 5: ask costs 1 and the cells of the way, not those unlike from the root");
        RootedDeltas y = Runs.behind(Runs.unlikeInAll(10));
        y.set(1, 30);
        check.due(0, y.unlike(8, 10));
        check.due(8 + 8 + 8, y.version(10, 5));
        check.due(25, y.ask(10));
        check.due(1 + 16, y.ask(8));
        check.due(1 + 8, y.ask(9));
        check.due(25 + 17 + 9, y.count(4));
        check.due(3, y.count(3));

        check.test("promise 5: ask, the dearest way: 23 steps, 8 of them by a cell, 15 by all cells");
        RootedDeltas z = Runs.behind(Runs.unlikeInAll(23));
        z.set(1, 23);
        check.due(23, z.version(23, 4));
        check.due(1 + 8 + 15 * 8, z.ask(23));
        check.due(1 + 8 + 15 * 8, z.count(4));
        check.due(1 + 8 + 15 * 8, z.ask(0));
        check.due(0, z.count(9));
    }

    /** A way of just so many steps is not cut, one of a step more is. */
    private static void askStepsOfEachSetting() {
        check.test("promise 5: ask, a way of more steps than the setting 1 tells: 1 to 22");
        for (int most = 1; most <= 22; most++) {
            RootedDeltas x = Runs.behind(Runs.chain(23));
            x.set(0, 0);
            x.set(1, most);
            check.due(1 + most, x.ask(most));
            check.due(0, x.count(9));
            check.due(1, x.count(1));
            check.due(0, x.version(most, 3));
            check.due(2 + most, x.ask(most + 1));
            check.due(1, x.count(9));
            check.due(2, x.count(1));
            check.due(0, x.version(most + 1, 1));
            check.due(1, x.version(most, 1));
            check.due(most + 1, x.version(most + 1, 3));
            check.due(most + 1, x.version(23, 3));
            check.due(0, x.version(most, 3));
        }
    }

    private static void askStepsAtFirst() {
        check.test("promise 5: ask, 6 steps at first");
        RootedDeltas x = Runs.behind(Runs.chain(7));
        check.due(7, x.ask(6));
        check.due(0, x.count(9));
        check.due(1, x.count(8));
        RootedDeltas y = Runs.behind(Runs.chain(7));
        check.due(8, y.ask(7));
        check.due(1, y.count(9));
        check.due(0, y.count(8));
    }

    private static void askStepsUpwards() {
        check.test("promise 5: ask, a way towards a source: as many steps, and a step more");
        RootedDeltas x = Runs.behind(Runs.chain(4));
        x.root(4);
        x.set(0, 0);
        x.set(1, 3);
        check.due(4, x.ask(1));
        check.due(0, x.count(9));
        check.due(5, x.ask(0));
        check.due(1, x.count(9));
        check.due(0, x.version(1, 1));
        check.due(0, x.version(0, 3));
        check.due(4, x.version(1, 3));
    }

    private static void askLastOfTheWay() {
        check.test("promise 5: ask, the last difference of the way: downwards, the version's own");
        RootedDeltas x = Runs.behind(Runs.star(2));
        x.root(2);
        x.set(1, 1);
        check.due(3, x.ask(1));
        check.due(0, x.version(1, 1));
        check.due(1, x.version(2, 1));
        check.due(1, x.version(1, 3));
        check.due(2, x.version(0, 3));

        check.test("promise 5: ask, the last difference of the way: upwards, that of the one ahead of it");
        for (int version = 0; version <= 3; version++) {
            RootedDeltas y = Runs.behind(Runs.chain(5));
            y.root(5);
            y.set(1, 1);
            check.due(6 - version, y.ask(version));
            for (int other = 1; other <= 5; other++) {
                check.due(other == version + 1 ? 0 : 1, y.version(other, 1));
            }
            check.due(version, y.version(0, 3));
            check.due(5, y.version(version + 1, 3));
        }
    }

    private static void askStepsThirty() {
        check.test("promise 5: ask, the longest way of 24 versions is not cut by 23 nor by 30");
        for (int most = 23; most <= 30; most++) {
            RootedDeltas x = Runs.behind(Runs.chain(23));
            x.set(1, most);
            check.due(24, x.ask(23));
            check.due(0, x.count(9));
            check.due(23, x.version(0, 3));
        }
        check.test("promise 5: ask, the longest way of 24 versions is cut by 22");
        RootedDeltas y = Runs.behind(Runs.chain(23));
        y.set(1, 22);
        check.due(24, y.ask(23));
        check.due(1, y.count(9));
        check.due(0, y.version(0, 3));
    }

    private static void askCutBehind() {
        check.test("promise 5: ask, the last difference is cut; the version is the root behind it");
        RootedDeltas x = Runs.behind(Runs.chain(4));
        x.make(3, 7, 1);
        x.set(1, 2);
        int room = x.count(2);
        check.due(4, x.ask(3));
        check.due(0, x.version(3, 1));
        check.due(1, x.version(4, 1));
        check.due(1, x.version(5, 1));
        check.due(3, x.version(3, 3));
        check.due(3, x.version(4, 3));
        check.due(3, x.version(5, 3));
        check.due(0, x.version(2, 3));
        check.due(room + 8 - 3, x.count(2));
        check.due(1, x.ask(3));
        check.due(1, x.count(9));
        check.due(1, x.join(3));
        check.due(0, x.version(3, 3));
    }

    private static void askCutWithEachRule() {
        check.test("promise 5: ask, a way that is cut: the rule is not looked at, no root is changed");
        for (int rule = 0; rule <= 2; rule++) {
            RootedDeltas x = Runs.behind(Runs.chain(2));
            x.set(0, rule);
            x.set(1, 1);
            x.ask(0);
            check.due(3, x.ask(2));
            check.due(2, x.version(2, 3));
            check.due(0, x.version(0, 3));
            check.due(0, x.version(1, 3));
            check.due(0, x.count(8));
            check.due(1, x.count(9));
        }
    }

    private static void askRuleStays() {
        check.test("promise 5: ask, the rule 0: the root stays");
        RootedDeltas x = Runs.behind(Runs.chain(1));
        x.set(0, 0);
        for (int times = 1; times <= 5; times++) {
            check.due(2, x.ask(1));
            check.due(times, x.version(1, 6));
            check.due(0, x.version(1, 3));
        }
        check.due(0, x.count(8));
    }

    private static void askRuleMoves() {
        check.test("promise 5: ask, the rule 1: the version becomes the root, a root changes nothing");
        RootedDeltas x = Runs.behind(Runs.chain(2));
        check.due(1, x.ask(0));
        check.due(0, x.count(8));
        check.due(2, x.ask(1));
        check.due(1, x.count(8));
        check.due(1, x.ask(1));
        check.due(1, x.count(8));
        check.due(2, x.ask(2));
        check.due(2, x.count(8));
        check.due(2, x.version(0, 3));
        check.due(4, x.count(3));
    }

    private static void askRuleMoreOften() {
        check.test("promise 5: ask, the rule 2: as often as the root is not more often");
        RootedDeltas x = Runs.behind(Runs.chain(1));
        x.set(0, 2);
        check.due(1, x.ask(0));
        check.due(1, x.ask(0));
        check.due(2, x.ask(1));
        check.due(2, x.ask(1));
        check.due(0, x.version(1, 3));
        check.due(0, x.count(8));
        check.due(2, x.ask(1));
        check.due(1, x.version(0, 3));
        check.due(1, x.count(8));

        check.test("promise 5: ask, the rule 2: this time counted");
        RootedDeltas y = Runs.behind(Runs.chain(1));
        y.set(0, 2);
        check.due(2, y.ask(1));
        check.due(1, y.version(0, 3));
        check.due(2, y.ask(0));
        check.due(1, y.version(0, 3));
        check.due(2, y.ask(0));
        check.due(0, y.version(1, 3));
        check.due(2, y.count(8));

        check.test("promise 5: ask, the rule 2: askings under other rules count, too");
        RootedDeltas z = Runs.behind(Runs.chain(1));
        z.set(0, 0);
        z.ask(1);
        z.ask(1);
        z.ask(0);
        z.ask(0);
        z.set(0, 2);
        check.due(2, z.ask(1));
        check.due(1, z.version(0, 3));
    }

    private static void askElderRoot() {
        check.test("promise 5: another root: the elder one is not kept whole, all else stays as it is");
        RootedDeltas x = Runs.behind(Runs.chain(3));
        int room = x.count(2);
        x.ask(3);
        check.due(room, x.count(2));
        check.due(1, x.count(1));
        check.due(0, x.count(6));
        for (int version = 1; version <= 3; version++) {
            check.due(version - 1, x.version(version, 0));
            check.due(1, x.version(version, 1));
            check.due(1 << version, x.version(version, 2));
            check.due(3 - version, x.version(version, 4));
        }
        check.due(3, x.version(0, 4));
    }

    private static void root() {
        check.test("promise 6: root returns the steps of the elder root's way: 1 with two versions");
        RootedDeltas x = Runs.behind(Runs.chain(1));
        check.due(1, x.root(1));
        check.due(1, x.version(0, 4));
        check.due(1, x.version(0, 3));
        check.due(1, x.root(0));

        check.test("promise 6: root, of its own tree alone");
        RootedDeltas y = Runs.behind(Runs.chain(4));
        y.cut(3);
        check.due(1, y.root(4));
        check.due(4, y.version(3, 3));
        check.due(0, y.version(2, 3));
        check.due(2, y.root(2));
        check.due(4, y.version(3, 3));
        check.due(2, y.count(1));
        check.due(0, y.count(8));
        check.due(0, y.count(3));
    }

    private static void rootNone() {
        check.test("promise 6: root, NONE if it is the root, nothing is changed");
        Whole.refused(check, NONE, Runs::nothing, x -> x.root(0));
        Whole.refused(check, NONE, Runs::busy, x -> x.root(4));
        Whole.refused(check, NONE, Runs::busy, x -> x.root(2));
        Whole.refused(check, NONE, Runs::full, x -> x.root(0));
        Whole.refused(check, NONE, Runs.then(Runs.chain(2), x -> x.ask(2)), x -> x.root(2));
        Whole.refused(check, NONE, Runs.then(Runs.chain(2), x -> x.cut(2)), x -> x.root(2));
    }

    private static void rootLongest() {
        check.test("promise 6: root returns the steps of the elder root's way: 23 at most");
        RootedDeltas x = Runs.behind(Runs.chain(23));
        check.due(23, x.root(23));
        check.due(23, x.version(0, 4));
        check.due(23, x.root(0));
        check.due(23, x.count(7));
        check.due(0, x.count(9));
    }

    private static void cutGivesRoot() {
        check.test("promise 7: cut, the root on the source's side stays, the version gets one");
        for (int root = 0; root <= 1; root++) {
            RootedDeltas x = Runs.behind(Runs.chain(3));
            x.root(root);
            check.due(2, x.cut(2));
            check.due(root, x.version(0, 3));
            check.due(root, x.version(1, 3));
            check.due(2, x.version(2, 3));
            check.due(2, x.version(3, 3));
        }
        check.test("promise 7: cut, the root on the version's side stays, its source gets one");
        for (int root = 2; root <= 3; root++) {
            RootedDeltas x = Runs.behind(Runs.chain(3));
            x.root(root);
            check.due(2, x.cut(2));
            check.due(1, x.version(0, 3));
            check.due(1, x.version(1, 3));
            check.due(root, x.version(2, 3));
            check.due(root, x.version(3, 3));
        }
        check.test("promise 7: cut is not counted as a change or a cut by asking");
        RootedDeltas y = Runs.behind(Runs.chain(1));
        y.cut(1);
        check.due(0, y.count(8));
        check.due(0, y.count(9));
        check.due(1, y.count(6));
    }

    private static void cutAll() {
        check.test("promise 7: cut returns how many trees there are then: 2 up to 24");
        RootedDeltas x = Runs.behind(Runs.unlikeInAll(23));
        for (int version = 1; version <= 23; version++) {
            check.due(version + 1, x.cut(version));
        }
        check.due(24, x.count(1));
        check.due(23, x.count(6));
        check.due(24 * 8, x.count(2));
        check.due(0, x.count(7));
        for (int version = 0; version <= 23; version++) {
            check.due(version, x.version(version, 3));
            check.due(1, x.version(version, 8));
        }
    }

    private static void cutRefused() {
        check.test("promise 7: cut, NOT_POSSIBLE for 0, nothing is changed");
        Whole.refusedAnywhere(check, NOT_POSSIBLE, x -> x.cut(0));
        Whole.refused(check, NOT_POSSIBLE, Runs.then(Runs.chain(1), x -> x.cut(1)), x -> x.cut(0));

        check.test("promise 7: cut, NONE if it is cut already, nothing is changed");
        Whole.refused(check, NONE, Runs::busy, x -> x.cut(2));
        Whole.refused(check, NONE, Runs.then(Runs.chain(23), x -> x.cut(23)), x -> x.cut(23));
        Whole.refused(check, NONE, Runs.then(Runs.chain(7), x -> x.ask(7)), x -> x.cut(7));
    }

    private static void joinRoots() {
        check.test("promise 8: join, of both roots that of the source's tree stays");
        for (int upper = 0; upper <= 1; upper++) {
            for (int lower = 2; lower <= 3; lower++) {
                RootedDeltas x = Runs.behind(Runs.chain(3));
                x.cut(2);
                x.root(upper);
                x.root(lower);
                check.due(1, x.join(2));
                for (int version = 0; version <= 3; version++) {
                    check.due(upper, x.version(version, 3));
                }
                check.due(1, x.version(2, 1));
                check.due(8 + 9, x.count(2));
                check.due(0, x.count(6));
                check.due(0, x.count(8));
            }
        }
    }

    private static void joinAll() {
        check.test("promise 8: join returns how many trees there are then: 23 down to 1");
        RootedDeltas x = Runs.behind(Runs.chain(23));
        for (int version = 1; version <= 23; version++) {
            x.cut(version);
        }
        for (int version = 23; version >= 1; version--) {
            check.due(version, x.join(version));
            check.due(version - 1, x.version(23, 3));
        }
        check.due(23, x.version(23, 4));
        check.due(8 + 23 * 3, x.count(2));
    }

    private static void joinRefused() {
        check.test("promise 8: join, NOT_POSSIBLE for 0, nothing is changed");
        Whole.refusedAnywhere(check, NOT_POSSIBLE, x -> x.join(0));

        check.test("promise 8: join, NONE if it is kept already, nothing is changed");
        Whole.refused(check, NONE, Runs::busy, x -> x.join(1));
        Whole.refused(check, NONE, Runs::busy, x -> x.join(4));
        Whole.refused(check, NONE, Runs::full, x -> x.join(23));
        Runs.Run joined = Runs.then(Runs::busy, x -> x.join(2));
        Whole.refused(check, NONE, joined, x -> x.join(2));
    }

    private static void setWhich() {
        check.test("promise 9: set, `which`: 0 or 1");
        RootedDeltas x = new RootedDeltas();
        check.due(1, x.set(0, 2));
        check.due(6, x.set(1, 2));
        check.due(2, x.count(10));
        check.due(2, x.count(11));

        check.test("promise 9: set, UNKNOWN for another `which`, nothing is changed");
        int[] wrong = {-1, 2, 3, 10, 256, LEAST, MOST, LEAST + 1};
        for (int which : wrong) {
            Whole.refusedAnywhere(check, UNKNOWN, y -> y.set(which, 1));
        }
    }

    private static void setRule() {
        check.test("promise 9: set, the rule: 0 to 2");
        RootedDeltas x = new RootedDeltas();
        check.due(1, x.set(0, 0));
        check.due(0, x.set(0, 2));
        check.due(2, x.set(0, 1));
        check.due(1, x.count(10));
        check.due(6, x.count(11));
        check.due(3, x.count(13));

        check.test("promise 9: set, BAD_VALUE for a rule below 0 or above 2, nothing is changed");
        int[] wrong = {-1, 3, 6, 30, 31, 256, LEAST, MOST};
        for (int value : wrong) {
            Whole.refusedAnywhere(check, BAD_VALUE, y -> y.set(0, value));
        }
    }

    private static void setMostSteps() {
        check.test("promise 9: set, the most steps: 1 to 30");
        RootedDeltas x = new RootedDeltas();
        int previous = 6;
        for (int value = 30; value >= 1; value--) {
            check.due(previous, x.set(1, value));
            check.due(value, x.count(11));
            previous = value;
        }
        check.due(1, x.count(11));
        check.due(1, x.count(10));

        check.test("promise 9: set, BAD_VALUE for most steps below 1 or above 30, nothing is changed");
        int[] wrong = {0, -1, 31, 32, 257, LEAST, LEAST + 1, MOST};
        for (int value : wrong) {
            Whole.refusedAnywhere(check, BAD_VALUE, y -> y.set(1, value));
        }
    }

    private static void setNone() {
        check.test("promise 9: set, NONE if it is so already, nothing is changed");
        Whole.refused(check, NONE, Runs::nothing, x -> x.set(0, 1));
        Whole.refused(check, NONE, Runs::nothing, x -> x.set(1, 6));
        Whole.refused(check, NONE, Runs::busy, x -> x.set(0, 1));
        Whole.refused(check, NONE, Runs::busy, x -> x.set(1, 2));
        int[] rules = {0, 2};
        for (int rule : rules) {
            Runs.Run set = x -> x.set(0, rule);
            Whole.refused(check, NONE, set, x -> x.set(0, rule));
        }
        int[] steps = {1, 30};
        for (int most : steps) {
            Runs.Run set = x -> x.set(1, most);
            Whole.refused(check, NONE, set, x -> x.set(1, most));
        }
    }

    private static void setOrderOfChecks() {
        check.test("promise 9: set, UNKNOWN ahead of BAD_VALUE and NONE");
        Whole.refusedAnywhere(check, UNKNOWN, x -> x.set(2, 31));
        Whole.refusedAnywhere(check, UNKNOWN, x -> x.set(-1, -1));
        Whole.refused(check, UNKNOWN, Runs::nothing, x -> x.set(2, 6));
        Whole.refused(check, UNKNOWN, Runs::nothing, x -> x.set(-1, 1));
    }

    private static void eachIsAnAct() {
        check.test("promise 5: ask is an act");
        Whole.isAnAct(check, 1, Runs::nothing, x -> x.ask(0));
        Whole.isAnAct(check, 4, Runs.chain(3), x -> x.ask(3));
        Whole.isAnAct(check, 8, Runs.chain(7), x -> x.ask(7));
        Whole.isAnAct(check, 2, Runs::busy, x -> x.ask(1));
        Whole.isAnAct(check, 1, Runs::busy, x -> x.ask(4));
        check.test("promise 6: root is an act");
        Whole.isAnAct(check, 1, Runs.chain(1), x -> x.root(1));
        Whole.isAnAct(check, 2, Runs::busy, x -> x.root(0));
        check.test("promise 7: cut is an act");
        Whole.isAnAct(check, 2, Runs.chain(3), x -> x.cut(2));
        Whole.isAnAct(check, 3, Runs::busy, x -> x.cut(1));
        check.test("promise 8: join is an act");
        Whole.isAnAct(check, 1, Runs.then(Runs.chain(2), x -> x.cut(1)), x -> x.join(1));
        Whole.isAnAct(check, 1, Runs::busy, x -> x.join(2));
        check.test("promise 9: set is an act, even if it returns 0");
        Whole.isAnAct(check, 1, Runs::nothing, x -> x.set(0, 0));
        Whole.isAnAct(check, 0, Runs.then(Runs::nothing, x -> x.set(0, 0)), x -> x.set(0, 1));
        Whole.isAnAct(check, 2, Runs::busy, x -> x.set(1, 30));
    }
}
