/** Promises 17 to 25, sentence by sentence: the least, the most, and what is out of range. */
public final class EdgesOfToldTest {
    private static final int UNKNOWN = -1;
    private static final int BAD_VALUE = -2;
    private static final int NOT_POSSIBLE = -4;
    private static final int NONE = -5;
    private static final int LEAST = Integer.MIN_VALUE;
    private static final int MOST = Integer.MAX_VALUE;

    private static final Check check = new Check();

    public static void main(String[] args) {
        cellCells();
        cellNumbers();
        versionWhat();
        versionOfZero();
        versionSourceAndDifference();
        versionWay();
        versionAskedAndMade();
        versionTree();
        versionCost();
        waySteps();
        wayRefused();
        unlike();
        commonEnds();
        commonIsBySources();
        ifRootNothingAsked();
        ifRootAsked();
        ifRootOfItsTree();
        bestRootTies();
        bestRootOfItsTree();
        ifCutKept();
        ifCutTheOtherWay();
        ifCutRefused();
        countWhat();
        countVersionsAndTrees();
        countRoom();
        countAskings();
        countNeverAsked();
        countCutsAndSteps();
        countRootChangesAndCuts();
        countSettings();
        countUnlikeRows();
        countHistoryAndText();
        tellingChangesNothing();
        lastCall();
        check.end();
    }

    private static void cellCells() {
        check.test("promise 17: cell, `cell`: 0 to 7");
        RootedDeltas x = Runs.behind(Runs.chain(7));
        int[] row = {0, 2, 3, 4, 5, 6, 7, 8};
        for (int cell = 0; cell <= 7; cell++) {
            check.due(row[cell], x.cell(7, cell));
        }
        check.test("promise 17: cell, UNKNOWN below 0 and above 7: no cell of a neighbour, no change");
        int[] wrong = {-1, 8, -8, 9, 15, 16, 32, 191, 192, 256, 1 << 29, LEAST, MOST};
        for (int cell : wrong) {
            for (int version = 0; version <= 7; version++) {
                check.due(UNKNOWN, x.cell(version, cell));
            }
            Whole.refusedAnywhere(check, UNKNOWN, y -> y.cell(0, cell));
            Whole.refused(check, UNKNOWN, Runs::full, y -> y.cell(23, cell));
            Whole.refused(check, UNKNOWN, Runs::busy, y -> y.cell(3, cell));
        }
    }

    private static void cellNumbers() {
        check.test("promise 17: cell tells of a version that is far from its root as of the root");
        RootedDeltas x = Runs.behind(Runs.unlikeInAll(23));
        for (int root = 0; root <= 23; root++) {
            x.root(root);
            check.due(0, x.cell(0, 7));
            check.due(0, x.cell(23, 0));
            check.due(9, x.cell(22, 7));
            check.due(9, x.cell(1, 0));
            check.due(0, x.cell(1, 1));
        }
    }

    private static void versionWhat() {
        check.test("promise 18: version, `what`: 0 to 9");
        int[] zero = {NONE, 0, 0, 0, 0, 0, 0, 0, 1, 1};
        int[] first = {0, 1, 1, 0, 1, 1, 0, 0, 2, 2};
        RootedDeltas x = new RootedDeltas();
        for (int what = 0; what <= 9; what++) {
            check.due(zero[what], x.version(0, what));
        }
        x.make(0, 0, 1);
        for (int what = 0; what <= 9; what++) {
            check.due(first[what], x.version(1, what));
        }
        check.test("promise 18: version, BAD_VALUE below 0 and above 9, nothing is changed");
        int[] wrong = {-1, 10, 11, 16, 256, 265, LEAST, MOST};
        for (int what : wrong) {
            Whole.refusedAnywhere(check, BAD_VALUE, y -> y.version(0, what));
            Whole.refused(check, BAD_VALUE, Runs::full, y -> y.version(23, what));
        }
        check.test("promise 18: version, UNKNOWN ahead of BAD_VALUE");
        for (int what : wrong) {
            Whole.refusedAnywhere(check, UNKNOWN, y -> y.version(-1, what));
            Whole.refusedAnywhere(check, UNKNOWN, y -> y.version(24, what));
        }
    }

    private static void versionOfZero() {
        check.test("promise 18: version, 0 has no source (NONE), no difference and no cells of one");
        RootedDeltas x = Runs.behind(Runs.unlikeInAll(23));
        check.due(NONE, x.version(0, 0));
        check.due(0, x.version(0, 1));
        check.due(0, x.version(0, 2));
        x.root(9);
        check.due(NONE, x.version(0, 0));
        check.due(0, x.version(0, 1));
        check.due(0, x.version(0, 2));
        check.due(9, x.version(0, 4));
        check.due(16, x.version(0, 5));
    }

    private static void versionSourceAndDifference() {
        check.test("promise 18: version, its source: the lowest and the highest number");
        RootedDeltas x = Runs.behind(Runs.chain(23));
        check.due(0, x.version(1, 0));
        check.due(22, x.version(23, 0));
        RootedDeltas y = Runs.behind(Runs.star(23));
        y.remove(1);
        y.make(23, 0, 9);
        check.due(23, y.version(1, 0));

        check.test("promise 18: version, whether the difference is kept: by make, cut, join and ask");
        RootedDeltas z = Runs.behind(Runs.chain(7));
        check.due(1, z.version(7, 1));
        z.cut(7);
        check.due(0, z.version(7, 1));
        z.join(7);
        check.due(1, z.version(7, 1));
        z.ask(7);
        check.due(0, z.version(7, 1));
        check.due(1, z.version(6, 1));

        check.test("promise 18: version, the cells of its difference: 0, 1, 128 and 255, also when cut");
        RootedDeltas w = Runs.behind(Runs.unlikeInAll(9));
        w.mix(9, 9, 255);
        int[] want = {0, 1, 2, 4, 8, 16, 32, 64, 128, 255, 0};
        for (int version = 0; version <= 10; version++) {
            check.due(want[version], w.version(version, 2));
            w.cut(version);
            check.due(want[version], w.version(version, 2));
        }
    }

    private static void versionWay() {
        check.test("promise 18: version, the root, steps and cells of its way: none, and the most");
        RootedDeltas x = Runs.behind(Runs.unlikeInAll(23));
        check.due(0, x.version(0, 4));
        check.due(0, x.version(0, 5));
        check.due(0, x.version(23, 3));
        check.due(23, x.version(23, 4));
        check.due(8 + 15 * 8, x.version(23, 5));
        x.root(23);
        check.due(23, x.version(0, 3));
        check.due(23, x.version(0, 4));
        check.due(8 + 15 * 8, x.version(0, 5));
        check.due(0, x.version(23, 4));
        check.due(0, x.version(23, 5));
        check.due(15, x.version(8, 4));
        check.due(15 * 8, x.version(8, 5));

        check.test("promise 18: version, a way leads along differences in either direction");
        RootedDeltas y = Runs.behind(Runs.star(3));
        y.make(3, 0, 9);
        y.root(1);
        check.due(3, y.version(4, 4));
        check.due(3, y.version(4, 5));
        check.due(1, y.version(0, 4));
        check.due(2, y.version(2, 4));
    }

    private static void versionAskedAndMade() {
        check.test("promise 18: version, how often it was asked for: by ask() and by a text alone");
        RootedDeltas x = Runs.behind(Runs.star(2));
        check.due(0, x.version(1, 6));
        x.root(1);
        x.cut(1);
        x.mix(1, 2, 1);
        check.due(0, x.version(1, 6));
        check.due(1, x.ask(1));
        check.due(1, x.version(1, 6));
        check.due(13, Check.perform(x, Runs.MOST_ORDERS.replace('0', '1')));
        check.due(14, x.version(1, 6));
        check.due(0, x.version(0, 6));

        check.test("promise 18: version, versions that were made of it: 0 to 23, not those made of these");
        RootedDeltas y = new RootedDeltas();
        for (int made = 0; made <= 22; made++) {
            check.due(made, y.version(0, 7));
            y.make(0, 0, 1);
        }
        check.due(23, y.version(0, 7));
        check.due(0, y.version(23, 7));
        y.cut(5);
        check.due(23, y.version(0, 7));
        y.remove(5);
        check.due(22, y.version(0, 7));
        y.mix(4, 0, 1);
        check.due(22, y.version(0, 7));
        check.due(1, y.version(4, 7));
    }

    private static void versionTree() {
        check.test("promise 18: version, versions in its tree: 1 and 24, itself counted");
        RootedDeltas x = Runs.behind(Runs::full);
        check.due(24, x.version(0, 8));
        check.due(24, x.version(11, 8));
        x.cut(23);
        check.due(1, x.version(23, 8));
        check.due(23, x.version(22, 8));
        x.cut(6);
        check.due(6, x.version(11, 8));
        check.due(17, x.version(0, 8));
    }

    private static void versionCost() {
        check.test("promise 18: version, what asking would cost: what ask() returns then");
        Runs.Run[] runs = {Runs::nothing, Runs::busy, Runs::full, Runs.unlikeInAll(23), Runs.chain(9)};
        for (Runs.Run run : runs) {
            for (int version = 0; version <= 23; version++) {
                RootedDeltas x = Runs.behind(run);
                int cost = x.version(version, 9);
                check.due(cost, x.ask(version));
            }
        }
        check.test("promise 18: version, asking costs 1 at least, and 1 and the cells at most");
        RootedDeltas x = Runs.behind(Runs.unlikeInAll(23));
        check.due(1, x.version(0, 9));
        check.due(129, x.version(23, 9));
    }

    private static void waySteps() {
        check.test("promise 19: way, `step`: 0 for the root, up to the version itself, then NONE");
        RootedDeltas x = Runs.behind(Runs.chain(23));
        for (int step = 0; step <= 23; step++) {
            check.due(step, x.way(23, step));
        }
        check.due(NONE, x.way(23, 24));
        check.due(0, x.way(0, 0));
        check.due(NONE, x.way(0, 1));
        check.due(1, x.way(1, 1));
        check.due(NONE, x.way(1, 2));
        x.root(23);
        for (int step = 0; step <= 23; step++) {
            check.due(23 - step, x.way(0, step));
        }
        check.due(NONE, x.way(0, 24));
        check.due(23, x.way(23, 0));
        check.due(NONE, x.way(23, 1));

        check.test("promise 19: way, up to a source and down again");
        RootedDeltas y = Runs.behind(Runs.star(2));
        y.make(1, 5, 5);
        y.make(2, 5, 5);
        y.root(3);
        int[] way = {3, 1, 0, 2, 4};
        for (int step = 0; step < 5; step++) {
            check.due(way[step], y.way(4, step));
        }
        check.due(NONE, y.way(4, 5));
        y.cut(2);
        check.due(2, y.way(4, 0));
        check.due(4, y.way(4, 1));
        check.due(NONE, y.way(4, 2));
    }

    private static void wayRefused() {
        check.test("promise 19: way, BAD_VALUE if step is negative, nothing is changed");
        int[] negative = {-1, -2, -32, LEAST, LEAST + 1};
        for (int step : negative) {
            Whole.refusedAnywhere(check, BAD_VALUE, x -> x.way(0, step));
            Whole.refused(check, BAD_VALUE, Runs::full, x -> x.way(23, step));
        }
        check.test("promise 19: way, NONE if the way is not so long, nothing is changed");
        int[] far = {23, 24, 32, 256, 1 << 30, MOST};
        for (int step : far) {
            Whole.refusedAnywhere(check, NONE, x -> x.way(0, step));
        }
        check.test("promise 19: way, UNKNOWN ahead of BAD_VALUE and NONE");
        int[] steps = {-1, 0, 24, LEAST, MOST};
        for (int step : steps) {
            Whole.refusedAnywhere(check, UNKNOWN, x -> x.way(-1, step));
            Whole.refusedAnywhere(check, UNKNOWN, x -> x.way(24, step));
            Whole.refused(check, UNKNOWN, Runs::busy, x -> x.way(3, step));
        }
    }

    private static void unlike() {
        check.test("promise 20: unlike, in how many cells: 0 to 8, both ways round, also when cut");
        RootedDeltas x = Runs.behind(Runs::nines);
        for (int version = 0; version <= 8; version++) {
            check.due(version, x.unlike(0, version));
            check.due(version, x.unlike(version, 0));
            check.due(0, x.unlike(version, version));
            check.due(8 - version, x.unlike(8, version));
        }
        x.cut(4);
        check.due(8, x.unlike(0, 8));
        check.test("promise 20: unlike, the numbers of two versions, not the cells of a way between");
        RootedDeltas y = Runs.behind(Runs.unlikeInAll(10));
        check.due(0, y.unlike(8, 10));
        check.due(0, y.unlike(0, 9));
        check.due(8, y.unlike(9, 10));
    }

    private static void commonEnds() {
        check.test("promise 21: common, they themselves are included");
        RootedDeltas x = Runs.behind(Runs.chain(23));
        for (int version = 0; version <= 23; version++) {
            check.due(version, x.common(version, version));
            check.due(version, x.common(version, 23));
            check.due(version, x.common(23, version));
            check.due(0, x.common(0, version));
            check.due(0, x.common(version, 0));
        }
        check.test("promise 21: common, the last one of the two ways: 0 if there is none nearer");
        RootedDeltas y = Runs.behind(Runs.star(2));
        y.make(1, 4, 4);
        y.make(2, 4, 4);
        y.make(1, 5, 5);
        y.make(3, 6, 6);
        check.due(0, y.common(3, 4));
        check.due(0, y.common(4, 6));
        check.due(1, y.common(3, 5));
        check.due(1, y.common(5, 6));
        check.due(3, y.common(6, 3));
    }

    private static void commonIsBySources() {
        check.test("promise 21: common, on the ways by sources: no root and no cut changes it");
        RootedDeltas x = Runs.behind(Runs.chain(3));
        x.mix(1, 3, 255);
        for (int version = 4; version >= 1; version--) {
            x.root(version);
            x.cut(version);
            check.due(1, x.common(3, 4));
            check.due(1, x.common(4, 2));
            check.due(0, x.common(0, 4));
        }
        check.test("promise 21: common, a version need not have a higher number than its source");
        RootedDeltas y = Runs.behind(Runs.star(4));
        y.remove(1);
        y.make(4, 0, 1);
        y.remove(2);
        y.make(1, 0, 2);
        y.remove(3);
        y.make(1, 0, 3);
        check.due(1, y.common(2, 3));
        check.due(4, y.common(4, 2));
        check.due(1, y.common(3, 1));
    }

    private static void ifRootNothingAsked() {
        check.test("promise 22: ifRoot is 0 if none of the tree was asked for");
        RootedDeltas x = new RootedDeltas();
        check.due(0, x.ifRoot(0));
        x = Runs.behind(Runs::full);
        for (int version = 0; version <= 23; version++) {
            check.due(0, x.ifRoot(version));
        }
    }

    private static void ifRootAsked() {
        check.test("promise 22: ifRoot, how often it was asked for, times 1 and the cells of its way");
        RootedDeltas x = new RootedDeltas();
        x.ask(0);
        check.due(1, x.ifRoot(0));
        x.make(0, 0, 0);
        check.due(1, x.ifRoot(1));
        RootedDeltas y = Runs.behind(Runs.unlikeInAll(23));
        y.ask(0);
        y.ask(0);
        y.ask(0);
        check.due(3, y.ifRoot(0));
        check.due(3 * 2, y.ifRoot(1));
        check.due(3 * 9, y.ifRoot(8));
        check.due(3 * 17, y.ifRoot(9));
        check.due(3 * 129, y.ifRoot(23));
        y.ask(1);
        check.due(3 + 2, y.ifRoot(0));
        check.due(3 * 129 + 128, y.ifRoot(23));
    }

    private static void ifRootOfItsTree() {
        check.test("promise 22: ifRoot, of the versions of a tree: those of other trees do not count");
        RootedDeltas x = Runs.behind(Runs.chain(3));
        x.set(0, 0);
        for (int version = 0; version <= 3; version++) {
            x.ask(version);
        }
        check.due(1 + 2 + 3 + 4, x.ifRoot(0));
        check.due(2 + 1 + 2 + 3, x.ifRoot(1));
        x.cut(2);
        check.due(1 + 2, x.ifRoot(0));
        check.due(2 + 1, x.ifRoot(1));
        check.due(1 + 2, x.ifRoot(2));
        check.due(2 + 1, x.ifRoot(3));
        x.cut(3);
        check.due(1, x.ifRoot(3));
        check.test("promise 22: ifRoot, the root stays what it is");
        check.due(0, x.version(1, 3));
        check.due(3, x.version(3, 3));
    }

    private static void bestRootTies() {
        check.test("promise 23: bestRoot, of several the lowest: of a tree that was never asked for");
        RootedDeltas x = Runs.behind(Runs.chain(5));
        check.due(0, x.bestRoot(0));
        check.due(0, x.bestRoot(5));
        x.cut(3);
        check.due(3, x.bestRoot(5));
        check.due(3, x.bestRoot(3));
        check.due(0, x.bestRoot(2));

        check.test("promise 23: bestRoot, of several the lowest: as dear by both ends of a way");
        RootedDeltas y = Runs.behind(Runs.chain(3));
        y.ask(3);
        check.due(3, y.bestRoot(0));
        y.ask(0);
        check.due(0, y.bestRoot(3));
        check.due(y.ifRoot(0), y.ifRoot(3));
        y.ask(2);
        check.due(2, y.bestRoot(3));
        check.due(2, y.bestRoot(0));

        check.test("promise 23: bestRoot, of several the lowest: an equal row of a lower number");
        RootedDeltas z = Runs.behind(Runs.star(2));
        z.remove(1);
        z.make(2, 2, 1);
        check.due(0, z.version(1, 2));
        z.ask(2);
        check.due(1, z.bestRoot(2));
        check.due(1, z.bestRoot(0));
    }

    private static void bestRootOfItsTree() {
        check.test("promise 23: bestRoot, of the version's tree: alone in it, the version itself");
        RootedDeltas x = Runs.behind(Runs.star(23));
        x.cut(23);
        x.ask(7);
        check.due(23, x.bestRoot(23));
        check.due(7, x.bestRoot(22));
        check.due(7, x.bestRoot(0));
        x.ask(23);
        check.due(23, x.bestRoot(23));
        check.due(7, x.bestRoot(1));

        check.test("promise 23: bestRoot, the highest number, if it is asked for");
        RootedDeltas y = Runs.behind(Runs.chain(23));
        y.set(1, 30);
        y.ask(23);
        check.due(23, y.bestRoot(0));
        y.root(0);
        check.due(23, y.bestRoot(0));
    }

    private static void ifCutKept() {
        check.test("promise 24: ifCut of a kept difference: a whole version more, the difference less");
        RootedDeltas x = Runs.behind(Runs.unlikeInAll(9));
        x.mix(9, 9, 1);
        int room = 8 + 8 * 3 + 17 + 1;
        check.due(room, x.count(2));
        check.due(room + 8 - 3, x.ifCut(1));
        check.due(room + 8 - 17, x.ifCut(9));
        check.due(room + 8 - 1, x.ifCut(10));
        check.due(room, x.count(2));
        for (int version = 1; version <= 10; version++) {
            int told = x.ifCut(version);
            x.cut(version);
            check.due(told, x.count(2));
            x.undo();
        }
    }

    private static void ifCutTheOtherWay() {
        check.test("promise 24: ifCut of a cut difference: the other way round");
        RootedDeltas x = Runs.behind(Runs.unlikeInAll(9));
        x.mix(9, 9, 1);
        for (int version = 1; version <= 10; version++) {
            x.cut(version);
        }
        check.due(11 * 8, x.count(2));
        check.due(11 * 8 - 8 + 3, x.ifCut(1));
        check.due(11 * 8 - 8 + 17, x.ifCut(9));
        check.due(11 * 8 - 8 + 1, x.ifCut(10));
        for (int version = 10; version >= 1; version--) {
            int told = x.ifCut(version);
            x.join(version);
            check.due(told, x.count(2));
        }
    }

    private static void ifCutRefused() {
        check.test("promise 24: ifCut, NOT_POSSIBLE for 0, nothing is changed");
        Whole.refusedAnywhere(check, NOT_POSSIBLE, x -> x.ifCut(0));
        Whole.refused(check, NOT_POSSIBLE, Runs.then(Runs.chain(1), x -> x.root(1)), x -> x.ifCut(0));
    }

    private static void countWhat() {
        check.test("promise 25: count, `what`: 0 to 14 of a new object");
        int[] want = {1, 1, 8, 0, 0, 1, 0, 0, 0, 0, 1, 6, 1, 0, 0};
        RootedDeltas x = new RootedDeltas();
        for (int what = 0; what <= 14; what++) {
            check.due(want[what], x.count(what));
        }
        check.test("promise 25: count, BAD_VALUE below 0 and above 14, nothing is changed");
        int[] wrong = {-1, 15, 16, 32, 256, 270, LEAST, MOST};
        for (int what : wrong) {
            Whole.refusedAnywhere(check, BAD_VALUE, y -> y.count(what));
        }
    }

    private static void countVersionsAndTrees() {
        check.test("promise 25: count, 0 for versions: 1 to 24");
        RootedDeltas x = new RootedDeltas();
        for (int versions = 1; versions <= 23; versions++) {
            check.due(versions, x.count(0));
            x.make(0, 0, 1);
        }
        check.due(24, x.count(0));
        x.make(0, 0, 1);
        check.due(24, x.count(0));

        check.test("promise 25: count, 1 for trees: 1 to 24");
        for (int trees = 1; trees <= 23; trees++) {
            check.due(trees, x.count(1));
            x.cut(trees);
        }
        check.due(24, x.count(1));
        x.remove(23);
        check.due(23, x.count(1));
    }

    private static void countRoom() {
        check.test("promise 25: count, 2 for the room: 8 for each root, 1 for a difference, 2 for a cell");
        RootedDeltas x = new RootedDeltas();
        check.due(8, x.count(2));
        x.make(0, 0, 0);
        check.due(8 + 1, x.count(2));
        x.make(0, 0, 1);
        check.due(8 + 1 + 3, x.count(2));
        x.cut(2);
        check.due(16 + 1, x.count(2));
        RootedDeltas y = Runs.behind(Runs.unlikeInAll(23));
        check.due(8 + 8 * 3 + 15 * 17, y.count(2));
        y.root(12);
        check.due(8 + 8 * 3 + 15 * 17, y.count(2));
        for (int version = 1; version <= 23; version++) {
            y.cut(version);
        }
        check.due(24 * 8, y.count(2));
    }

    private static void countAskings() {
        check.test("promise 25: count, 3 and 4 for askings so far and what they cost so far");
        RootedDeltas x = Runs.behind(Runs.chain(2));
        check.due(0, x.count(3));
        check.due(0, x.count(4));
        check.due(1, x.ask(0));
        check.due(1, x.count(3));
        check.due(1, x.count(4));
        check.due(3, x.ask(2));
        check.due(UNKNOWN, x.ask(3));
        check.due(2, x.count(3));
        check.due(4, x.count(4));

        check.test("promise 25: count, so far: also of versions that were removed since");
        x.remove(2);
        check.due(2, x.count(3));
        check.due(4, x.count(4));
        check.due(1, x.ifRoot(0));

        check.test("promise 25: count, askings by a text count, too, but not those that are taken back");
        check.due(2, Check.perform(x, "ask 0;ask 1"));
        check.due(4, x.count(3));
        check.due(-4, Check.perform(x, "ask 0;ask 2"));
        check.due(4, x.count(3));
        x.undo();
        check.due(2, x.count(3));
    }

    private static void countNeverAsked() {
        check.test("promise 25: count, 5 for versions that were never asked for: 24 down to 0");
        RootedDeltas x = Runs.behind(Runs::full);
        for (int version = 0; version <= 23; version++) {
            check.due(24 - version, x.count(5));
            x.ask(version);
            x.ask(version);
        }
        check.due(0, x.count(5));
        x.remove(23);
        check.due(0, x.count(5));
        x.make(0, 0, 1);
        check.due(1, x.count(5));
        x.remove(23);
        check.due(0, x.count(5));
    }

    private static void countCutsAndSteps() {
        check.test("promise 25: count, 6 for differences that are cut: 0 to 23");
        RootedDeltas x = Runs.behind(Runs.chain(23));
        for (int version = 1; version <= 23; version++) {
            check.due(version - 1, x.count(6));
            x.cut(version);
        }
        check.due(23, x.count(6));
        x.remove(23);
        check.due(22, x.count(6));

        check.test("promise 25: count, 7 for the most steps of any way: 0 to 23, of any tree");
        check.due(0, x.count(7));
        RootedDeltas y = new RootedDeltas();
        for (int version = 1; version <= 23; version++) {
            check.due(version - 1, y.count(7));
            y.make(version - 1, 0, version % 2);
        }
        check.due(23, y.count(7));
        y.root(11);
        check.due(12, y.count(7));
        y.cut(10);
        check.due(12, y.count(7));
        y.cut(23);
        y.root(22);
        check.due(12, y.count(7));
        y.cut(16);
        check.due(9, y.count(7));
    }

    private static void countRootChangesAndCuts() {
        check.test("promise 25: count, 8 for roots changed by asking: not by root, cut, join, remove");
        RootedDeltas x = Runs.behind(Runs.chain(3));
        x.root(2);
        x.cut(2);
        x.join(2);
        x.root(3);
        x.remove(3);
        check.due(0, x.count(8));
        check.due(0, x.count(9));
        x.ask(1);
        check.due(0, x.version(1, 4));
        check.due(1, x.count(8));
        x.ask(1);
        check.due(1, x.count(8));

        check.test("promise 25: count, 9 for ways cut by asking: not by cut()");
        x.set(1, 1);
        x.root(2);
        x.ask(0);
        check.due(1, x.count(9));
        check.due(1, x.count(8));
        x.cut(2);
        check.due(1, x.count(9));
    }

    private static void countSettings() {
        check.test("promise 25: count, 10 and 11 for the settings: the least and the most of each");
        RootedDeltas x = new RootedDeltas();
        x.set(0, 2);
        x.set(1, 30);
        check.due(2, x.count(10));
        check.due(30, x.count(11));
        x.set(0, 0);
        x.set(1, 1);
        check.due(0, x.count(10));
        check.due(1, x.count(11));
    }

    private static void countUnlikeRows() {
        check.test("promise 25: count, 12 for unlike rows among all versions: 1 and 24");
        RootedDeltas x = Runs.behind(Runs.star(23));
        check.due(24, x.count(12));
        RootedDeltas y = new RootedDeltas();
        for (int version = 1; version <= 23; version++) {
            y.make(version - 1, 0, 0);
            check.due(1, y.count(12));
        }
        check.test("promise 25: count, 12: rows that are equal count once, in whatever tree");
        RootedDeltas z = Runs.behind(Runs.star(2));
        check.due(3, z.count(12));
        z.mix(1, 2, 255);
        z.make(1, 2, 1);
        z.make(4, 1, 0);
        check.due(5 - 1, z.count(12));
        z.cut(5);
        z.cut(2);
        check.due(4, z.count(12));
        z.remove(2);
        check.due(4, z.count(12));
        z.remove(3);
        check.due(4, z.count(12));
        z.remove(5);
        check.due(3, z.count(12));
    }

    private static void countHistoryAndText() {
        check.test("promise 25: count, 13 for the states in the history: 0 to 4");
        RootedDeltas x = new RootedDeltas();
        for (int acts = 0; acts <= 6; acts++) {
            check.due(Math.min(acts, 4), x.count(13));
            x.ask(0);
        }
        check.test("promise 25: count, 14 for the length of the text: 0 to 80");
        for (int length = 0; length <= 82; length++) {
            check.due(Math.min(length, 80), x.count(14));
            x.type('a');
        }
        check.due(80, x.count(14));
    }

    private static void tellingChangesNothing() {
        check.test("promises 17 to 25: what is told changes nothing");
        Runs.Call[] told = {
            x -> x.cell(1, 0), x -> x.version(1, 3), x -> x.version(1, 9), x -> x.way(1, 0),
            x -> x.unlike(0, 1), x -> x.common(0, 1), x -> x.ifRoot(1), x -> x.bestRoot(1),
            x -> x.ifCut(1), x -> x.ifCut(2), x -> x.count(7), x -> x.count(12),
        };
        Runs.Run[] runs = {Runs::busy, Runs::full, Runs.chain(2)};
        for (Runs.Run run : runs) {
            String before = Whole.of(run);
            for (Runs.Call call : told) {
                check.same("all behind it", before, Whole.of(Runs.then(run, call)));
            }
        }
    }

    /** What later calls answer is free. */
    private static void lastCall() {
        check.test("an object is used for at most 512 calls: the 512th is answered as the others");
        RootedDeltas x = new RootedDeltas();
        for (int call = 1; call <= 511; call++) {
            check.due(1, x.ask(0));
        }
        check.due(511, x.count(3));

        RootedDeltas y = Runs.behind(Runs.unlikeInAll(23));
        y.set(1, 30);
        long cost = 0;
        for (int call = 25; call <= 511; call++) {
            cost += y.ask(call % 2 == 0 ? 0 : 23);
        }
        check.due(129L * (511 - 24), cost);
        check.due(129 * (511 - 24), y.count(4));
    }
}
