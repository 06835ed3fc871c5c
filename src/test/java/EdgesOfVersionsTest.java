/** Promises 1 to 4, sentence by sentence: what is allowed last, what is not first, and refusals. */
public final class EdgesOfVersionsTest {
    private static final int UNKNOWN = -1;
    private static final int BAD_VALUE = -2;
    private static final int FULL = -3;
    private static final int NOT_POSSIBLE = -4;
    private static final int NONE = -5;
    private static final int LEAST = Integer.MIN_VALUE;
    private static final int MOST = Integer.MAX_VALUE;

    private static final Check check = new Check();

    public static void main(String[] args) {
        aNewObject();
        aNewObjectIsEmpty();
        aNewObjectIsItsOwn();
        makeCell();
        makeNumber();
        makeAlike();
        makeWhenFull();
        makeOrderOfChecks();
        mixCells();
        mixEachSet();
        mixOfTheSame();
        mixUnlikeInAll();
        mixWhenFull();
        mixOrderOfChecks();
        lowestNumber();
        atFirstItHangsTogether();
        removeZero();
        removeWhatOthersAreMadeOf();
        removeThirdOfMix();
        removeDownToZero();
        removeRoots();
        removedIsUnknown();
        removedNumberIsNew();
        eachIsAnAct();
        check.end();
    }

    private static void aNewObject() {
        check.test("promise 1: it creates the version 0, which is a root, and no other one");
        RootedDeltas x = new RootedDeltas();
        check.due(1, x.count(0));
        check.due(1, x.count(1));
        check.due(8, x.count(2));
        check.due(0, x.version(0, 3));
        check.due(0, x.way(0, 0));
        check.due(NONE, x.root(0));
        check.due(UNKNOWN, x.version(-1, 3));
        check.due(UNKNOWN, x.version(1, 3));
        check.due(UNKNOWN, x.version(23, 3));

        check.test("promise 1: the version 0 has 0 in all cells, 0 to 7");
        for (int cell = 0; cell < 8; cell++) {
            check.due(0, x.cell(0, cell));
        }
        check.due(UNKNOWN, x.cell(0, -1));
        check.due(UNKNOWN, x.cell(0, 8));
    }

    private static void aNewObjectIsEmpty() {
        check.test("promise 1: the text is empty at first");
        RootedDeltas x = new RootedDeltas();
        check.due(0, x.count(14));
        check.due(-100, x.perform());
        check.due(0, x.clearText());

        check.test("promise 1: the history, the snapshot and the latest stop are empty at first");
        check.due(0, x.count(13));
        check.due(NONE, x.undo());
        check.due(NONE, x.restore());
        check.due(NONE, x.stopped(0));
        check.due(NONE, x.stopped(1));

        check.test("promise 1: the settings are 1 and 6 at first");
        check.due(1, x.count(10));
        check.due(6, x.count(11));

        check.test("promise 1: nothing was asked for, changed or cut at first");
        int[] zero = {3, 4, 6, 7, 8, 9};
        for (int what : zero) {
            check.due(0, x.count(what));
        }
        check.due(0, x.version(0, 6));
        check.due(1, x.count(5));
    }

    private static void aNewObjectIsItsOwn() {
        check.test("promise 1: a new object has nothing of another one");
        String whole = Whole.of(Runs::nothing);
        RootedDeltas x = Runs.behind(Runs::busy);
        check.same("all of a new object", whole, Whole.of(Runs::nothing));
        check.due(4, x.count(0));
    }

    private static void makeCell() {
        check.test("promise 2: make, `cell`: 0 to 7");
        for (int cell = 0; cell < 8; cell++) {
            RootedDeltas x = new RootedDeltas();
            check.due(1, x.make(0, cell, 5));
            check.due(1 << cell, x.version(1, 2));
            for (int other = 0; other < 8; other++) {
                check.due(other == cell ? 5 : 0, x.cell(1, other));
            }
        }

        check.test("promise 2: make, UNKNOWN (cell) below 0 and above 7, nothing is changed");
        int[] wrong = {-1, 8, 9, 16, 24, 32, 256, 1 << 29, -8, LEAST, MOST};
        for (int cell : wrong) {
            Whole.refusedAnywhere(check, UNKNOWN, x -> x.make(0, cell, 5));
        }
    }

    private static void makeNumber() {
        check.test("promise 2: make, `number`: 0 to 9");
        RootedDeltas x = new RootedDeltas();
        for (int number = 0; number <= 9; number++) {
            check.due(number + 1, x.make(0, 3, number));
            check.due(number, x.cell(number + 1, 3));
        }

        check.test("promise 2: make, BAD_VALUE below 0 and above 9, nothing is changed");
        int[] wrong = {-1, 10, 11, 16, 256, 265, -246, LEAST, MOST, LEAST + 9};
        for (int number : wrong) {
            Whole.refusedAnywhere(check, BAD_VALUE, y -> y.make(0, 3, number));
        }
    }

    private static void makeAlike() {
        check.test("promise 2: make, a number that is there already: a difference without cells");
        RootedDeltas x = new RootedDeltas();
        check.due(1, x.make(0, 0, 0));
        check.due(2, x.make(1, 7, 9));
        check.due(3, x.make(2, 7, 9));
        check.due(0, x.version(1, 2));
        check.due(0, x.version(1, 5));
        check.due(1, x.version(1, 4));
        check.due(0, x.version(3, 2));
        check.due(1, x.version(3, 5));
        check.due(3, x.version(3, 4));
        check.due(8 + 1 + 3 + 1, x.count(2));
        check.due(3, x.count(13));
    }

    private static void makeWhenFull() {
        check.test("promise 2: make, at most 24 versions are kept");
        RootedDeltas x = Runs.behind(Runs.star(22));
        check.due(23, x.count(0));
        check.due(23, x.make(22, 0, 9));
        check.due(24, x.count(0));
        check.due(9, x.cell(23, 0));
        check.due(FULL, x.make(0, 0, 1));
        check.due(FULL, x.make(23, 7, 9));

        check.test("promise 2: make, FULL changes nothing");
        Whole.refused(check, FULL, Runs::full, y -> y.make(0, 0, 1));
        Whole.refused(check, FULL, Runs::full, y -> y.make(23, 7, 0));

        check.test("promise 2: make, FULL no more when one is removed");
        check.due(23, x.remove(23));
        check.due(23, x.make(0, 0, 1));
        check.due(FULL, x.make(0, 0, 1));
        check.due(3, x.undo());
        check.due(23, x.make(0, 0, 1));
    }

    private static void makeOrderOfChecks() {
        check.test("promise 2: make, UNKNOWN (version) ahead of BAD_VALUE and FULL");
        Whole.refusedAnywhere(check, UNKNOWN, x -> x.make(-1, 0, 10));
        Whole.refusedAnywhere(check, UNKNOWN, x -> x.make(24, 0, -1));
        Whole.refusedAnywhere(check, UNKNOWN, x -> x.make(24, 8, 10));
        Whole.refused(check, UNKNOWN, Runs::full, x -> x.make(24, 0, 1));

        check.test("promise 2: make, UNKNOWN (cell) ahead of BAD_VALUE and FULL");
        Whole.refusedAnywhere(check, UNKNOWN, x -> x.make(0, -1, 10));
        Whole.refusedAnywhere(check, UNKNOWN, x -> x.make(0, 8, -1));
        Whole.refused(check, UNKNOWN, Runs::full, x -> x.make(0, 8, 1));

        check.test("promise 2: make, BAD_VALUE ahead of FULL");
        Whole.refused(check, BAD_VALUE, Runs::full, x -> x.make(0, 0, 10));
        Whole.refused(check, BAD_VALUE, Runs::full, x -> x.make(23, 7, -1));
    }

    private static void mixCells() {
        check.test("promise 3: mix, `cells`: 1 to 255");
        int[] right = {1, 2, 127, 128, 254, 255};
        for (int cells : right) {
            RootedDeltas x = Runs.behind(Runs::nines);
            check.due(9, x.mix(0, 8, cells));
            check.due(cells, x.version(9, 2));
        }

        check.test("promise 3: mix, BAD_VALUE below 1 and above 255, nothing is changed");
        int[] wrong = {0, 256, 257, 511, 1024, -1, -255, LEAST, LEAST + 1, MOST};
        for (int cells : wrong) {
            Whole.refusedAnywhere(check, BAD_VALUE, x -> x.mix(0, 0, cells));
        }
    }

    private static void mixEachSet() {
        check.test("promise 3: mix, a set of cells, as bits: each of 1 to 255");
        for (int cells = 1; cells <= 255; cells++) {
            RootedDeltas x = Runs.behind(Runs::nines);
            check.due(9, x.mix(0, 8, cells));
            check.due(10, x.mix(8, 0, cells));
            for (int cell = 0; cell < 8; cell++) {
                boolean taken = (cells & 1 << cell) != 0;
                check.due(taken ? 9 : 0, x.cell(9, cell));
                check.due(taken ? 0 : 9, x.cell(10, cell));
            }
        }
    }

    private static void mixOfTheSame() {
        check.test("promise 3: mix, `source` and `other` may be the same version");
        RootedDeltas x = new RootedDeltas();
        check.due(1, x.mix(0, 0, 255));
        check.due(2, x.make(1, 0, 7));
        check.due(3, x.mix(2, 2, 1));
        check.due(2, x.version(3, 0));
        check.due(0, x.version(3, 2));
        check.due(7, x.cell(3, 0));
        check.due(0, x.unlike(2, 3));
        check.due(3, x.count(13));
    }

    private static void mixUnlikeInAll() {
        check.test("promise 3: mix, a difference in none of the cells and in all of them");
        RootedDeltas x = Runs.behind(Runs::nines);
        check.due(9, x.mix(8, 8, 255));
        check.due(10, x.mix(8, 0, 255));
        check.due(0, x.version(9, 2));
        check.due(255, x.version(10, 2));
        check.due(8 + 8 * 3 + 1 + 17, x.count(2));
        check.due(8, x.version(9, 5));
        check.due(16, x.version(10, 5));
    }

    private static void mixWhenFull() {
        check.test("promise 3: mix, at most 24 versions are kept");
        RootedDeltas x = Runs.behind(Runs.star(22));
        check.due(23, x.mix(22, 1, 2));
        check.due(24, x.count(0));
        check.due(FULL, x.mix(0, 1, 1));
        check.due(FULL, x.mix(23, 23, 255));

        check.test("promise 3: mix, FULL changes nothing");
        Whole.refused(check, FULL, Runs::full, y -> y.mix(0, 1, 1));
        Whole.refused(check, FULL, Runs::full, y -> y.mix(23, 0, 255));

        check.test("promise 3: mix, FULL no more when one is removed");
        check.due(23, x.remove(7));
        check.due(7, x.mix(0, 1, 1));
        check.due(FULL, x.mix(0, 1, 1));
    }

    private static void mixOrderOfChecks() {
        check.test("promise 3: mix, UNKNOWN (source) ahead of BAD_VALUE and FULL");
        Whole.refusedAnywhere(check, UNKNOWN, x -> x.mix(-1, 0, 0));
        Whole.refusedAnywhere(check, UNKNOWN, x -> x.mix(24, 0, 256));
        Whole.refused(check, UNKNOWN, Runs::full, x -> x.mix(24, 0, 1));

        check.test("promise 3: mix, UNKNOWN (other) ahead of BAD_VALUE and FULL");
        Whole.refusedAnywhere(check, UNKNOWN, x -> x.mix(0, -1, 0));
        Whole.refusedAnywhere(check, UNKNOWN, x -> x.mix(0, 24, 256));
        Whole.refused(check, UNKNOWN, Runs::full, x -> x.mix(0, 24, 1));

        check.test("promise 3: mix, BAD_VALUE ahead of FULL");
        Whole.refused(check, BAD_VALUE, Runs::full, x -> x.mix(0, 1, 0));
        Whole.refused(check, BAD_VALUE, Runs::full, x -> x.mix(0, 1, 256));
    }

    private static void lowestNumber() {
        check.test("promises 2 and 3: the lowest number of 0 to 23 that no version has");
        RootedDeltas x = Runs.behind(Runs.star(23));
        x.remove(23);
        x.remove(12);
        x.remove(1);
        check.due(1, x.make(0, 0, 1));
        check.due(12, x.mix(0, 1, 1));
        check.due(23, x.make(0, 0, 1));
        check.due(FULL, x.make(0, 0, 1));
        x.remove(1);
        check.due(1, x.mix(23, 12, 1));
        check.due(FULL, x.mix(23, 12, 1));

        check.test("promises 2 and 3: the number of one that undo() took away is free again");
        RootedDeltas y = new RootedDeltas();
        check.due(1, y.make(0, 0, 1));
        check.due(2, y.make(0, 0, 2));
        y.undo();
        check.due(2, y.mix(0, 1, 1));
    }

    private static void atFirstItHangsTogether() {
        check.test("promises 2 and 3: at first a new version hangs together with its source");
        RootedDeltas x = Runs.behind(Runs.chain(2));
        x.cut(2);
        x.cut(1);
        check.due(3, x.make(1, 0, 9));
        check.due(4, x.mix(2, 0, 1));
        check.due(1, x.version(3, 1));
        check.due(1, x.version(4, 1));
        check.due(1, x.version(3, 3));
        check.due(2, x.version(4, 3));
        check.due(3, x.count(1));
    }

    private static void removeZero() {
        check.test("promise 4: remove, NOT_POSSIBLE for 0, nothing is changed");
        Whole.refusedAnywhere(check, NOT_POSSIBLE, x -> x.remove(0));
        RootedDeltas x = Runs.behind(Runs.chain(1));
        x.cut(1);
        x.remove(1);
        check.due(NOT_POSSIBLE, x.remove(0));
        check.due(1, x.count(0));
    }

    private static void removeWhatOthersAreMadeOf() {
        check.test("promise 4: remove, NOT_POSSIBLE if any was made of it, nothing is changed");
        Whole.refused(check, NOT_POSSIBLE, Runs::busy, x -> x.remove(1));
        Whole.refused(check, NOT_POSSIBLE, Runs.chain(23), x -> x.remove(22));
        Whole.refused(check, NOT_POSSIBLE, Runs.then(Runs.chain(2), x -> x.cut(2)), x -> x.remove(1));

        check.test("promise 4: remove, possible when the last one that was made of it is gone");
        RootedDeltas x = Runs.behind(Runs.chain(1));
        x.make(1, 0, 3);
        x.make(1, 0, 4);
        check.due(NOT_POSSIBLE, x.remove(1));
        check.due(3, x.remove(2));
        check.due(NOT_POSSIBLE, x.remove(1));
        check.due(2, x.remove(3));
        check.due(1, x.remove(1));
    }

    private static void removeThirdOfMix() {
        check.test("promise 4: remove, a version of which a mix only took cells was not its source");
        RootedDeltas x = Runs.behind(Runs.star(2));
        check.due(3, x.mix(1, 2, 255));
        check.due(NOT_POSSIBLE, x.remove(1));
        check.due(3, x.remove(2));
        check.due(0, x.cell(3, 1));
        check.due(1, x.cell(3, 2));
        check.due(6, x.version(3, 2));
    }

    private static void removeDownToZero() {
        check.test("promise 4: remove, returns how many versions are left: 23 down to 1");
        RootedDeltas x = Runs.behind(Runs.chain(23));
        for (int version = 23; version >= 1; version--) {
            check.due(version, x.remove(version));
            check.due(version, x.count(0));
        }
        check.due(NOT_POSSIBLE, x.remove(0));
        check.due(8, x.count(2));
        check.due(1, x.count(1));
    }

    private static void removeRoots() {
        check.test("promise 4: remove, a root: its source becomes the root, if the difference is kept");
        RootedDeltas x = Runs.behind(Runs.chain(3));
        x.root(3);
        check.due(3, x.remove(3));
        check.due(2, x.version(0, 3));
        check.due(1, x.count(1));
        check.due(0, x.count(8));

        check.test("promise 4: remove, a root that is cut: its tree is gone, the other root stays");
        x.cut(2);
        check.due(2, x.version(2, 3));
        check.due(1, x.version(0, 3));
        check.due(2, x.remove(2));
        check.due(1, x.count(1));
        check.due(1, x.version(0, 3));
        check.due(0, x.count(6));
        check.due(8 + 3, x.count(2));

        check.test("promise 4: remove, none that is a root: the root stays");
        RootedDeltas y = Runs.behind(Runs.star(3));
        y.root(1);
        check.due(3, y.remove(3));
        check.due(1, y.version(0, 3));
        check.due(1, y.count(1));
    }

    private static void removedIsUnknown() {
        check.test("promise 4: remove, a version that was removed is UNKNOWN, nothing is changed");
        Runs.Run removed = Runs.then(Runs.chain(2), x -> x.remove(2));
        Whole.refused(check, UNKNOWN, removed, x -> x.remove(2));
        Whole.refused(check, UNKNOWN, removed, x -> x.ask(2));
        Whole.refused(check, UNKNOWN, removed, x -> x.make(2, 0, 1));
        Whole.refused(check, UNKNOWN, removed, x -> x.cell(2, 0));
    }

    private static void removedNumberIsNew() {
        check.test("promise 4: remove, its number has nothing of it when it is given anew");
        RootedDeltas x = Runs.behind(Runs.chain(2));
        x.ask(2);
        x.ask(2);
        x.cut(2);
        x.remove(2);
        check.due(2, x.make(0, 7, 7));
        check.due(0, x.version(2, 6));
        check.due(1, x.version(2, 1));
        check.due(0, x.version(2, 0));
        check.due(0, x.version(2, 7));
        check.due(128, x.version(2, 2));
        check.due(1, x.version(2, 3));
        check.due(0, x.cell(2, 1));
        check.due(2, x.count(3));
        check.due(1, x.count(1));
    }

    private static void eachIsAnAct() {
        check.test("promise 2: make is an act");
        Whole.isAnAct(check, 1, Runs::nothing, x -> x.make(0, 0, 0));
        Whole.isAnAct(check, 3, Runs::busy, x -> x.make(0, 0, 0));
        Whole.isAnAct(check, 5, Runs.chain(4), x -> x.make(3, 0, 0));
        check.test("promise 3: mix is an act");
        Whole.isAnAct(check, 1, Runs::nothing, x -> x.mix(0, 0, 1));
        Whole.isAnAct(check, 3, Runs::busy, x -> x.mix(4, 2, 255));
        Whole.isAnAct(check, 5, Runs.chain(4), x -> x.mix(3, 1, 255));
        check.test("promise 4: remove is an act");
        Whole.isAnAct(check, 1, Runs.chain(1), x -> x.remove(1));
        Whole.isAnAct(check, 3, Runs::busy, x -> x.remove(4));
        Whole.isAnAct(check, 23, Runs::full, x -> x.remove(11));
    }
}
