/** Promises 10 to 13, sentence by sentence: what is allowed last, what is not first, and refusals. */
public final class EdgesOfTextsTest {
    private static final int UNKNOWN = -1;
    private static final int BAD_VALUE = -2;
    private static final int FULL = -3;
    private static final int NOT_POSSIBLE = -4;
    private static final int NONE = -5;
    private static final int LEAST = Integer.MIN_VALUE;
    private static final int MOST = Integer.MAX_VALUE;

    /** 80 characters: with an 81st, a "1", one cell more would be unlike. */
    private static final String FULL_TEXT = "ask 0;".repeat(10) + "make 0 1 5;mix 0 1 0";

    private static final Check check = new Check();

    public static void main(String[] args) {
        typeUpTo80();
        typeAnyCharacter();
        typeIsNoAct();
        clearText();
        clearTextIsNoAct();
        performVersionNumbers();
        performCells();
        performNumbers();
        performMixCells();
        performFaultAhead();
        performFaultAtTheEnd();
        performFaultChangesNothing();
        performMostOrders();
        performTextStays();
        performNothing();
        performStopsAtFirstAndLast();
        performStopsWhenFull();
        performStopsAtJoinOfZero();
        performAllOrNone();
        performOneAct();
        stoppedWhat();
        stoppedNoneYet();
        stoppedLatest();
        stoppedByAnOrderAlone();
        check.end();
    }

    private static void typeUpTo80() {
        check.test("promise 10: type returns the length then, 1 to 80");
        RootedDeltas x = new RootedDeltas();
        for (int length = 1; length <= 80; length++) {
            check.due(length, x.type('m'));
            check.due(length, x.count(14));
        }
        check.test("promise 10: type, FULL if it has 80 characters");
        check.due(FULL, x.type('m'));
        check.due(FULL, x.type((char) 0));
        check.due(80, x.count(14));

        check.test("promise 10: type, FULL changes nothing");
        check.due(80, FULL_TEXT.length());
        Runs.Run written = Runs.written(Runs::nothing, FULL_TEXT);
        Whole.refused(check, FULL, written, y -> y.type('1'));
        RootedDeltas z = Runs.behind(written);
        check.due(FULL, z.type('1'));
        check.due(12, z.perform());
        check.due(0, z.version(2, 2));

        check.test("promise 10: type, FULL no more when the text was emptied");
        check.due(80, z.clearText());
        check.due(1, z.type('a'));
    }

    private static void typeAnyCharacter() {
        check.test("promise 10: type, `character`: any character");
        RootedDeltas x = new RootedDeltas();
        char[] any = {0, 1, 9, 10, 13, 31, 127, 128, 255, 256, 0x7fff, 0x8000, 0xd800, 0xdfff, 0xfffe, 0xffff};
        for (int i = 0; i < any.length; i++) {
            check.due(i + 1, x.type(any[i]));
        }
        check.due(-100, x.perform());
        check.due(any.length, x.clearText());
    }

    private static void typeIsNoAct() {
        check.test("promise 10: type is no act, and changes no state");
        Runs.Run typed = Runs.then(Runs::busy, x -> x.type(';'));
        check.same("the state", Whole.stateAlone(Runs::busy), Whole.stateAlone(typed));
        check.due(4, Runs.behind(typed).count(13));
        check.same("the stop", Whole.stop(Runs::busy), Whole.stop(typed));
        RootedDeltas x = new RootedDeltas();
        x.type('a');
        check.due(0, x.count(13));
        check.due(NONE, x.undo());
    }

    private static void clearText() {
        check.test("promise 11: clearText returns the length that it had: 0, 1, 80");
        RootedDeltas x = new RootedDeltas();
        check.due(0, x.clearText());
        x.type('a');
        check.due(1, x.clearText());
        check.due(0, x.clearText());
        Check.write(x, FULL_TEXT);
        check.due(80, x.clearText());

        check.test("promise 11: clearText, the text is empty then");
        check.due(0, x.count(14));
        check.due(-100, x.perform());
        check.due(1, x.type('a'));
        check.due(-101, x.perform());
    }

    private static void clearTextIsNoAct() {
        check.test("promise 11: clearText is no act, and changes no state");
        Runs.Run cleared = Runs.then(Runs::busy, RootedDeltas::clearText);
        check.same("the state", Whole.stateAlone(Runs::busy), Whole.stateAlone(cleared));
        check.due(4, Runs.behind(cleared).count(13));
        check.same("the stop", Whole.stop(Runs::busy), Whole.stop(cleared));
    }

    /** Each order with each version, on an object that has them all. */
    private static void performVersionNumbers() {
        check.test("promise 12: perform, a version (0 to 23) in each order");
        Runs.Run free = Runs.then(Runs::full, x -> x.remove(23));
        for (int version = 0; version <= 23; version++) {
            RootedDeltas asked = Runs.behind(Runs::full);
            check.due(1, Check.perform(asked, "ask " + version));
            check.due(1, asked.version(version, 6));
            RootedDeltas rooted = Runs.behind(Runs::full);
            check.due(1, Check.perform(rooted, "root " + version));
            check.due(version, rooted.version(0, 3));
            RootedDeltas joined = Runs.behind(Runs::full);
            joined.cut(version);
            check.due(version == 0 ? NOT_POSSIBLE : 1, Check.perform(joined, "join " + version));
            check.due(1, joined.count(1));
            if (version < 23) {
                RootedDeltas made = Runs.behind(free);
                check.due(1, Check.perform(made, "make " + version + " 0 0"));
                check.due(version, made.version(23, 0));
                RootedDeltas mixed = Runs.behind(free);
                check.due(1, Check.perform(mixed, "mix " + version + " 0 0"));
                check.due(version, mixed.version(23, 0));
                RootedDeltas other = Runs.behind(free);
                check.due(1, Check.perform(other, "mix 0 " + version + " 01234567"));
                check.due(0, other.unlike(23, version));
            }
        }
    }

    private static void performCells() {
        check.test("promise 12: perform, make: a cell (0 to 7)");
        for (int cell = 0; cell <= 7; cell++) {
            RootedDeltas x = new RootedDeltas();
            check.due(1, Check.perform(x, "make 0 " + cell + " 9"));
            check.due(1 << cell, x.version(1, 2));
        }
        fault(7, "make 0 8 9");
        fault(7, "make 0 9 9");
        fault(8, "make 0 00 9");
        fault(8, "make 0 10 9");
    }

    private static void performNumbers() {
        check.test("promise 12: perform, make: a number (0 to 9)");
        for (int number = 0; number <= 9; number++) {
            RootedDeltas x = new RootedDeltas();
            check.due(1, Check.perform(x, "make 0 7 " + number));
            check.due(number, x.cell(1, 7));
        }
        fault(10, "make 0 7 10");
        fault(10, "make 0 7 00");
        fault(10, "make 0 7 99");
    }

    private static void performMixCells() {
        check.test("promise 12: perform, mix: 1 to 8 unlike digits from 0 to 7 that grow");
        for (int cells = 1; cells <= 255; cells++) {
            RootedDeltas x = Runs.behind(Runs::nines);
            StringBuilder digits = new StringBuilder();
            for (int cell = 0; cell < 8; cell++) {
                digits.append((cells & 1 << cell) != 0 ? String.valueOf(cell) : "");
            }
            check.due(1, Check.perform(x, "mix 0 8 " + digits));
            check.due(cells, x.version(9, 2));
        }
        check.test("promise 12: perform, mix: digits that do not grow");
        for (int first = 0; first <= 7; first++) {
            for (int second = 0; second <= 9; second++) {
                String text = "mix 0 0 " + first + second;
                if (second > first && second <= 7) {
                    check.due(1, Check.perform(new RootedDeltas(), text));
                } else {
                    fault(9, text);
                }
            }
        }
        fault(16, "mix 0 0 012345670");
        fault(16, "mix 0 0 012345677");
        fault(8, "mix 0 0 8");
        fault(8, "mix 0 0 9");
    }

    private static void fault(int index, String text) {
        int answer = Check.perform(new RootedDeltas(), text);
        if (answer != -100 - index) {
            check.fail("\"" + text + "\" answered " + answer + ", due is " + (-100 - index));
        }
    }

    private static void performFaultAhead() {
        check.test("promise 12: perform, of several faults the first one");
        fault(0, "xask");
        fault(4, "ask x;x");
        fault(5, "ask 0x;make 9");
        fault(6, "ask 0;xask 99");
        fault(5, "ask 99;ask 99");

        check.test("promise 12: perform, a fault of the text ahead of an order that would stop");
        RootedDeltas x = new RootedDeltas();
        check.due(-106, Check.perform(x, "ask 9;x"));
        check.due(-106, Check.perform(x, "ask 9;"));
        check.due(NONE, x.stopped(0));
        check.due(NONE, x.stopped(1));
    }

    private static void performFaultAtTheEnd() {
        check.test("promise 12: perform, the length of a text that ends too early: 0 to 80");
        check.due(-100, new RootedDeltas().perform());
        String[] early = {"a", "as", "ask", "ask ", "ask 0;", "make 0 0 ", "mix 23 23 ", "join 9;root "};
        for (String text : early) {
            fault(text.length(), text);
        }
        fault(78, Runs.MOST_ORDERS + ";");
        fault(79, Runs.MOST_ORDERS + ";m");
        fault(80, Runs.MOST_ORDERS + ";ma");

        check.test("promise 12: perform, a fault at the last of 80 characters");
        fault(79, Runs.MOST_ORDERS + ";mm");
        fault(79, FULL_TEXT.substring(0, 79) + "8");
        fault(0, "x" + FULL_TEXT.substring(1));
    }

    private static void performFaultChangesNothing() {
        check.test("promise 12: perform, a fault is an error: it changes nothing");
        String[] wrong = {"", "x", "make 0 0 1;x", "make 0 0 1;", "ask 0;ask 0;ask 24", "root 0;join 0;"};
        for (String text : wrong) {
            for (Runs.Run run : new Runs.Run[] {Runs::nothing, Runs::busy, Runs::full}) {
                Runs.Run written = Runs.written(run, text);
                int answer = Runs.behind(written).perform();
                check.yes("no fault in " + text, answer <= -100);
                Whole.refused(check, answer, written, RootedDeltas::perform);
            }
        }
    }

    private static void performMostOrders() {
        check.test("promise 12: perform returns how many orders there are: 1 to 13");
        for (int orders = 1; orders <= 13; orders++) {
            RootedDeltas x = new RootedDeltas();
            check.due(orders, Check.perform(x, "ask 0" + ";ask 0".repeat(orders - 1)));
            check.due(orders, x.count(3));
            check.due(1, x.count(13));
        }
        check.test("promise 12: perform, a text of 80 characters without a fault");
        RootedDeltas x = new RootedDeltas();
        check.due(12, Check.perform(x, FULL_TEXT));
        check.due(80, x.count(14));
        check.due(10, x.count(3));
        check.due(3, x.count(0));
    }

    private static void performTextStays() {
        check.test("promise 12: perform, the text stays: carried out, stopped, or with a fault");
        RootedDeltas x = new RootedDeltas();
        check.due(1, Check.perform(x, "make 0 0 1"));
        check.due(10, x.count(14));
        check.due(1, x.perform());
        check.due(3, x.count(0));
        check.due(NOT_POSSIBLE, Check.perform(x, "ask 9"));
        check.due(5, x.count(14));
        check.due(NOT_POSSIBLE, x.perform());
        check.due(-104, Check.perform(x, "ask "));
        check.due(4, x.count(14));
        check.due(-104, x.perform());
        check.due(5, x.type('0'));
        check.due(1, x.perform());
        check.due(11, Check.perform(x, "ask 0" + ";ask 0".repeat(10)));
        x.undo();
        x.undo();
        check.due(65, x.clearText());
    }

    private static void performNothing() {
        check.test("promise 12: perform, an order that does nothing does not stop: root, join");
        RootedDeltas x = Runs.behind(Runs.chain(1));
        check.due(3, Check.perform(x, "root 0;join 1;make 1 1 1"));
        check.due(3, x.count(0));
        check.due(3, Check.perform(x, "make 1 1 1;root 0;join 1"));
        check.due(4, x.count(0));
        check.due(NONE, x.stopped(0));

        check.test("promise 12: perform, orders that all do nothing are an act, it returns their number");
        Whole.isAnAct(check, 2, Runs.written(Runs::nothing, "root 0;root 0"), RootedDeltas::perform);
        Runs.Run chain = Runs.written(Runs.chain(4), "join 1;root 0;join 4");
        check.due(4, Runs.behind(chain).count(13));
        Whole.isAnAct(check, 3, chain, RootedDeltas::perform);
        check.same("the state", Whole.stateAlone(chain),
                Whole.stateAlone(Runs.then(chain, RootedDeltas::perform)));
    }

    private static void stops(int order, int error, Runs.Run run, String text) {
        RootedDeltas x = Runs.behind(run);
        check.due(NOT_POSSIBLE, Check.perform(x, text));
        check.due(order, x.stopped(0));
        check.due(error, x.stopped(1));
    }

    private static void performStopsAtFirstAndLast() {
        check.test("promise 12: perform, UNKNOWN stops it, in each order that names a version");
        String[] orders = {"make 1 0 0", "mix 1 0 0", "mix 0 1 0", "ask 1", "root 1", "join 1"};
        for (String order : orders) {
            stops(0, UNKNOWN, Runs::nothing, order);
            stops(0, UNKNOWN, Runs::nothing, order + ";ask 0;ask 1");
            stops(2, UNKNOWN, Runs::nothing, "ask 0;root 0;" + order);
            stops(0, UNKNOWN, Runs.star(22), order.replace("1", "23"));
        }
        check.test("promise 12: perform, stopped at the last order of the most");
        stops(12, UNKNOWN, Runs::nothing, Runs.MOST_ORDERS.substring(0, 76) + "1");
        check.test("promise 12: perform, of several orders that would stop it the first one");
        stops(1, UNKNOWN, Runs::nothing, "ask 0;ask 5;join 0;ask 6");
        stops(0, NOT_POSSIBLE, Runs::nothing, "join 0;ask 5");
    }

    private static void performStopsWhenFull() {
        check.test("promise 12: perform, FULL stops it, the 24th version does not");
        RootedDeltas x = Runs.behind(Runs.star(22));
        check.due(1, Check.perform(x, "make 0 0 0"));
        check.due(24, x.count(0));
        stops(0, FULL, Runs.star(23), "make 0 0 0");
        stops(0, FULL, Runs.star(23), "mix 0 0 0");
        stops(1, FULL, Runs.star(22), "make 0 0 0;mix 0 0 0");
        stops(1, FULL, Runs.star(22), "mix 0 0 0;make 0 0 0");
        stops(0, UNKNOWN, Runs.star(22), "make 23 0 0;make 0 0 0;make 0 0 0");
        RootedDeltas y = Runs.behind(Runs.star(22));
        check.due(NOT_POSSIBLE, Check.perform(y, "make 0 0 0;make 0 0 0"));
        check.due(23, y.count(0));
        check.due(23, y.make(0, 0, 0));
    }

    private static void performStopsAtJoinOfZero() {
        check.test("promise 12: perform, NOT_POSSIBLE (join 0) stops it");
        stops(0, NOT_POSSIBLE, Runs::nothing, "join 0");
        stops(2, NOT_POSSIBLE, Runs::nothing, "ask 0;make 0 0 0;join 0");
        stops(1, NOT_POSSIBLE, Runs::busy, "join 2;join 0");
    }

    private static void performAllOrNone() {
        check.test("promise 12: perform, all of them, or none: stopped, only the latest stop changes");
        String[] texts = {
            "ask 23", "make 0 0 5;ask 23", "mix 0 0 7;join 0", "ask 0;ask 1;root 0;ask 23",
            "join 2;root 4;ask 2;make 4 4 4;mix 5 2 0147;ask 5;join 0",
        };
        for (String text : texts) {
            Runs.Run written = Runs.written(Runs::busy, text);
            check.due(NOT_POSSIBLE, Runs.behind(written).perform());
            check.same("all but the stop", Whole.butTheStop(written),
                    Whole.butTheStop(Runs.then(written, RootedDeltas::perform)));
        }
        check.test("promise 12: perform, none of them behind a new object");
        RootedDeltas x = new RootedDeltas();
        check.due(NOT_POSSIBLE, Check.perform(x, "make 0 0 1;ask 1;ask 2"));
        check.due(1, x.count(0));
        check.due(0, x.count(3));
        check.due(0, x.count(8));
        check.due(NONE, x.undo());
        check.due(1, x.make(0, 0, 0));
    }

    private static void performOneAct() {
        check.test("promise 12: perform is one act, of however many orders");
        String six = "make 0 0 1;ask 1;root 0;make 1 0 2;mix 2 0 0;ask 3";
        Whole.isAnAct(check, 6, Runs.written(Runs::nothing, six), RootedDeltas::perform);
        String five = "join 2;ask 2;ask 0;make 0 0 0;mix 1 4 7";
        Whole.isAnAct(check, 5, Runs.written(Runs::busy, five), RootedDeltas::perform);

        check.test("promise 12: perform, orders one after the other: a later one knows what was made");
        RootedDeltas x = new RootedDeltas();
        check.due(4, Check.perform(x, "make 0 0 1;make 1 1 1;mix 2 0 0;ask 3"));
        check.due(2, x.version(3, 0));
        check.due(1, x.version(3, 2));
        check.due(3, x.version(0, 3));
        check.due(4, x.count(4));
    }

    private static void stoppedWhat() {
        check.test("promise 13: stopped, `what`: 0 or 1");
        RootedDeltas x = new RootedDeltas();
        Check.perform(x, "ask 0;ask 1");
        check.due(1, x.stopped(0));
        check.due(UNKNOWN, x.stopped(1));

        check.test("promise 13: stopped, BAD_VALUE below 0 and above 1, nothing is changed");
        int[] wrong = {-1, 2, 3, 256, LEAST, MOST};
        for (int what : wrong) {
            Whole.refusedAnywhere(check, BAD_VALUE, y -> y.stopped(what));
        }
    }

    private static void stoppedNoneYet() {
        check.test("promise 13: stopped, NONE if none was stopped yet, nothing is changed");
        for (int what = 0; what <= 1; what++) {
            int told = what;
            Whole.refused(check, NONE, Runs::nothing, x -> x.stopped(told));
            Whole.refused(check, NONE, Runs::full, x -> x.stopped(told));
            Whole.refused(check, NONE, Runs.performed("ask 0"), x -> x.stopped(told));
            Whole.refused(check, NONE, Runs.performed("ask 0;x"), x -> x.stopped(told));
        }
        check.test("promise 13: stopped, a first order that is stopped is 0, and not NONE");
        stops(0, UNKNOWN, Runs::nothing, "ask 1");
    }

    private static void stoppedLatest() {
        check.test("promise 13: stopped tells of the latest stop, in place of the one before it");
        RootedDeltas x = new RootedDeltas();
        Check.perform(x, "ask 0;ask 0;join 0");
        check.due(2, x.stopped(0));
        check.due(NOT_POSSIBLE, x.stopped(1));
        Check.perform(x, "ask 1");
        check.due(0, x.stopped(0));
        check.due(UNKNOWN, x.stopped(1));

        check.test("promise 13: stopped, no good perform(), no fault, undo() or restore() takes it back");
        x.keep();
        check.due(1, Check.perform(x, "ask 0"));
        check.due(0, x.stopped(0));
        check.due(-105, Check.perform(x, "ask 0x"));
        check.due(UNKNOWN, x.stopped(1));
        x.undo();
        check.due(UNKNOWN, x.stopped(1));
        x.restore();
        check.due(UNKNOWN, x.stopped(1));
        x.clearText();
        check.due(0, x.stopped(0));
        check.due(UNKNOWN, x.stopped(1));
    }

    private static void stoppedByAnOrderAlone() {
        check.test("promise 13: stopped, an error of another call is no stop");
        RootedDeltas x = new RootedDeltas();
        x.ask(5);
        x.join(0);
        x.make(0, 8, 0);
        check.due(NONE, x.stopped(0));
        check.due(NONE, x.stopped(1));
        Check.perform(x, "ask 0;ask 7");
        x.join(0);
        check.due(1, x.stopped(0));
        check.due(UNKNOWN, x.stopped(1));
    }
}
