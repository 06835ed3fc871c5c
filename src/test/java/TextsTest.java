/** Promises 10 to 13: type, clearText, perform, stopped. */
public final class TextsTest {
    private static final Check check = new Check();

    public static void main(String[] args) {
        type();
        clearText();
        faultsOfWords();
        faultsOfNumbers();
        faultsOfCells();
        faultsBetweenOrders();
        perform();
        performNothing();
        performStopped();
        performIsOneAct();
        mostOrders();
        stopped();
        check.end();
    }

    private static void type() {
        check.test("promise 10: type");
        RootedDeltas x = new RootedDeltas();
        check.due(1, x.type('a'));
        check.due(2, x.type((char) 0));
        check.due(3, x.type((char) 233));
        check.due(4, x.type((char) 65535));
        for (int length = 5; length <= 80; length++) {
            check.due(length, x.type(' '));
        }
        check.due(RootedDeltas.FULL, x.type('x'));
        check.due(80, x.count(14));
        check.due(0, x.count(13));
        check.due(-101, x.perform());
    }

    private static void clearText() {
        check.test("promise 11: clearText");
        RootedDeltas x = new RootedDeltas();
        check.due(0, x.clearText());
        check.due(1, x.type('a'));
        check.due(2, x.type('s'));
        check.due(2, x.clearText());
        check.due(0, x.count(14));
        check.due(0, x.clearText());
        check.due(-100, x.perform());
        check.due(0, x.count(13));
        for (int i = 0; i < 90; i++) {
            x.type('q');
        }
        check.due(80, x.clearText());
        check.due(1, x.type('a'));
    }

    private static void fault(int index, String text) {
        RootedDeltas x = new RootedDeltas();
        x.make(0, 0, 1);
        String before = Check.state(x);
        int answer = Check.perform(x, text);
        if (answer != -100 - index) {
            check.fail("\"" + text + "\" answered " + answer + ", due is " + (-100 - index));
        }
        check.same("the state behind " + text, before, Check.state(x));
        check.due(1, x.count(13));
        check.due(text.length(), x.count(14));
        check.due(RootedDeltas.NONE, x.stopped(0));
    }

    private static void faultsOfWords() {
        check.test("promise 12: perform, faults of words");
        fault(0, "");
        fault(0, " ");
        fault(0, "x");
        fault(0, ";");
        fault(0, "Make 0 0 0");
        fault(1, "m");
        fault(1, "m ");
        fault(1, "mx 0 0 0");
        fault(2, "mam");
        fault(2, "mi");
        fault(2, "mik");
        fault(3, "mak");
        fault(3, "maki");
        fault(4, "make");
        fault(4, "make0");
        fault(4, "makes 0 0 0");
        fault(3, "mix");
        fault(3, "asks");
        fault(3, "ask;");
        fault(4, "root");
        fault(2, "rot 0");
        fault(3, "joim 0");
        fault(0, "cut 1");
        fault(1, "remove 1");
        fault(0, "set 0 1");
        fault(1, "a\u0173k 0");
    }

    private static void faultsOfNumbers() {
        check.test("promise 12: perform, faults of numbers");
        fault(4, "ask ");
        fault(4, "ask  0");
        fault(4, "ask -1");
        fault(4, "ask x");
        fault(5, "ask 00");
        fault(5, "ask 01");
        fault(5, "ask 1x");
        fault(5, "ask 30");
        fault(5, "ask 24");
        fault(6, "ask 239");
        fault(6, "ask 100");
        fault(5, "ask 0 ");
        fault(5, "ask 0 1");
        fault(6, "join 0 1");
        fault(6, "make 0");
        fault(7, "make 0 ");
        fault(7, "make 0 8 0");
        fault(8, "make 0 7");
        fault(8, "make 0 77 0");
        fault(9, "make 0 7 ");
        fault(10, "make 0 0 10");
        fault(10, "make 0 0 1 ");
        fault(10, "make 0 0 1 1");
        fault(6, "make 24 0 0");
        fault(7, "mix 0 24 0");
        fault(6, "mix 12");
        fault(5, "mix 24 0 0");
        fault(8, "mix 12 24 0");
        fault(6, "join 90");
    }

    private static void faultsOfCells() {
        check.test("promise 12: perform, faults of cells");
        fault(7, "mix 0 0");
        fault(8, "mix 0 0 ");
        fault(8, "mix 0 0 8");
        fault(8, "mix 0 0  1");
        fault(8, "mix 0 0 ;");
        fault(9, "mix 0 0 00");
        fault(9, "mix 0 0 10");
        fault(10, "mix 0 0 122");
        fault(9, "mix 0 0 0 1");
        fault(9, "mix 0 0 78");
        fault(16, "mix 0 0 012345678");
        fault(16, "mix 0 0 01234567 ");
        fault(9, "mix 0 0 1/");
        fault(9, "mix 0 0 1:");
    }

    private static void faultsBetweenOrders() {
        check.test("promise 12: perform, faults between orders");
        fault(6, "ask 0;");
        fault(6, "ask 0; ask 0");
        fault(6, "ask 0;;ask 0");
        fault(7, "ask 0;a");
        fault(9, "ask 0;ask");
        fault(5, "ask 0,ask 0");
        fault(12, "ask 0;ask 1;");
        fault(5, "ask 0\nask 0");
    }

    private static void perform() {
        check.test("promise 12: perform");
        RootedDeltas x = new RootedDeltas();
        check.due(6, Check.perform(x, "make 0 0 1;make 1 7 2;make 0 1 3;mix 2 3 01;ask 2;root 3"));
        check.due(5, x.count(0));
        check.due(1, x.cell(2, 0));
        check.due(2, x.cell(2, 7));
        check.due(3, x.cell(4, 1));
        check.due(0, x.cell(4, 0));
        check.due(2, x.version(4, 0));
        check.due(3, x.version(0, 3));
        check.due(1, x.version(2, 6));
        check.due(3, x.count(4));
        check.due(56, x.count(14));
        check.due(1, x.count(13));
        check.due(6, x.perform());
        check.due(9, x.count(0));
        check.due(2, x.cut(2));
        check.due(1, Check.perform(x, "join 2"));
        check.due(1, x.count(1));
        check.due(1, Check.perform(x, "mix 0 1 01234567"));
        check.due(0, x.unlike(9, 1));
        check.due(4, Check.perform(x, "make 9 7 9;make 10 7 8;make 10 0 0;ask 12"));
        check.due(9, x.cell(10, 7));
        check.due(10, x.version(12, 0));
        check.due(12, x.version(0, 3));
    }

    private static void performNothing() {
        check.test("promise 12: perform, orders that do nothing");
        RootedDeltas x = new RootedDeltas();
        check.due(2, Check.perform(x, "root 0;root 0"));
        check.due(1, x.count(13));
        x.make(0, 0, 0);
        check.due(3, Check.perform(x, "join 1;root 0;ask 1"));
        check.due(1, x.version(0, 3));
        check.due(RootedDeltas.NONE, x.stopped(0));
        check.due(2, x.undo());
        check.due(1, x.undo());
        check.due(0, x.undo());
        check.due(1, x.count(0));
    }

    private static void performStopped() {
        check.test("promise 12: perform, all orders or none");
        RootedDeltas x = new RootedDeltas();
        x.make(0, 0, 1);
        String before = Check.state(x);
        check.due(RootedDeltas.NOT_POSSIBLE, Check.perform(x, "make 0 0 2;ask 2;root 1;ask 3"));
        check.same("the state", before, Check.state(x));
        check.due(1, x.count(13));
        check.due(3, x.stopped(0));
        check.due(RootedDeltas.UNKNOWN, x.stopped(1));
        check.due(RootedDeltas.NOT_POSSIBLE, Check.perform(x, "ask 1;join 0;ask 5"));
        check.due(1, x.stopped(0));
        check.due(RootedDeltas.NOT_POSSIBLE, x.stopped(1));
        check.same("the state", before, Check.state(x));
        check.due(RootedDeltas.NOT_POSSIBLE, Check.perform(x, "make 5 0 0"));
        check.due(0, x.stopped(0));
        check.due(RootedDeltas.NOT_POSSIBLE, Check.perform(x, "root 1;root 7"));
        check.due(1, x.stopped(0));
        check.due(RootedDeltas.NOT_POSSIBLE, Check.perform(x, "mix 0 9 1"));
        check.due(RootedDeltas.UNKNOWN, x.stopped(1));
        check.due(RootedDeltas.NOT_POSSIBLE, Check.perform(x, "join 23"));
        check.due(RootedDeltas.UNKNOWN, x.stopped(1));
        check.same("the state", before, Check.state(x));
        check.due(0, x.undo());
    }

    private static void performIsOneAct() {
        check.test("promise 12: perform is one act");
        RootedDeltas x = new RootedDeltas();
        String before = Check.state(x);
        check.due(5, Check.perform(x, "make 0 0 1;ask 1;make 1 0 2;ask 2;make 2 1 1"));
        check.due(1, x.count(13));
        String behind = Check.state(x);
        check.due(0, x.undo());
        check.same("the state", before, Check.state(x));
        check.due(44, x.count(14));
        check.due(5, x.perform());
        check.same("the state", behind, Check.state(x));
    }

    private static void mostOrders() {
        check.test("promise 12: perform, a full text");
        RootedDeltas x = new RootedDeltas();
        StringBuilder text = new StringBuilder("ask 0");
        for (int i = 1; i < 13; i++) {
            text.append(";ask 0");
        }
        check.due(13, Check.perform(x, text.toString()));
        check.due(13, x.count(3));
        check.due(78, x.type(';'));
        check.due(-178, x.perform());
        x.type('a');
        x.type('s');
        check.due(-180, x.perform());
        check.due(7, Check.perform(x, "make 0 0 1;make 0 0 1;make 0 0 1;make 0 0 1;"
                + "make 0 0 1;make 0 0 1;make 0 0 1"));
        check.due(7, x.perform());
        check.due(7, x.perform());
        check.due(RootedDeltas.NOT_POSSIBLE, x.perform());
        check.due(22, x.count(0));
        check.due(2, x.stopped(0));
        check.due(RootedDeltas.FULL, x.stopped(1));
        check.due(2, Check.perform(x, "make 21 7 9;mix 22 0 7"));
        check.due(24, x.count(0));
        check.due(1, Check.perform(x, "ask 23"));
        check.due(23, x.version(0, 3));
        check.due(22, x.version(23, 0));
        check.due(23, x.remove(5));
        check.due(1, Check.perform(x, "make 23 0 9"));
        check.due(23, x.version(5, 0));
        check.due(23, x.remove(5));
        check.due(1, Check.perform(x, "mix 23 23 0"));
        check.due(23, x.version(5, 0));
        check.due(1, Check.perform(x, "root 10"));
        check.due(10, x.version(23, 3));
        check.due(1, Check.perform(x, "root 19"));
        check.due(19, x.version(23, 3));
    }

    private static void stopped() {
        check.test("promise 13: stopped");
        RootedDeltas x = new RootedDeltas();
        check.due(RootedDeltas.NONE, x.stopped(0));
        check.due(RootedDeltas.NONE, x.stopped(1));
        check.due(RootedDeltas.BAD_VALUE, x.stopped(2));
        check.due(RootedDeltas.BAD_VALUE, x.stopped(-1));
        x.keep();
        Check.perform(x, "ask");
        check.due(RootedDeltas.NONE, x.stopped(0));
        Check.perform(x, "root 0;ask 0;ask 1");
        check.due(2, x.stopped(0));
        check.due(RootedDeltas.UNKNOWN, x.stopped(1));
        check.due(RootedDeltas.BAD_VALUE, x.stopped(2));
        check.due(RootedDeltas.BAD_VALUE, x.stopped(Integer.MIN_VALUE));
        Check.perform(x, "ask 0");
        Check.perform(x, "ask");
        x.undo();
        x.restore();
        x.join(0);
        check.due(2, x.stopped(0));
        check.due(RootedDeltas.UNKNOWN, x.stopped(1));
        Check.perform(x, "join 0");
        check.due(0, x.stopped(0));
        check.due(RootedDeltas.NOT_POSSIBLE, x.stopped(1));
    }
}
