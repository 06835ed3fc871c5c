/** Runs of calls on a new object, behind which the tests of the edges begin. */
final class Runs {
    interface Run {
        void on(RootedDeltas x);
    }

    interface Call {
        int on(RootedDeltas x);
    }

    /** Thirteen orders, the most that a text can hold; two more characters have room behind them. */
    static final String MOST_ORDERS = "ask 0" + ";ask 0".repeat(12);

    static RootedDeltas behind(Run run) {
        RootedDeltas x = new RootedDeltas();
        run.on(x);
        return x;
    }

    static void nothing(RootedDeltas x) {
    }

    /** Versions 0 to last, each made of the one before it, with one cell unlike. */
    static Run chain(int last) {
        return x -> {
            for (int version = 1; version <= last; version++) {
                x.make(version - 1, version % 8, version % 9 + 1);
            }
        };
    }

    /** Versions 0 to last, each made of 0, all of them unlike if there are no more than 24. */
    static Run star(int last) {
        return x -> {
            for (int version = 1; version <= last; version++) {
                x.make(0, version % 8, version / 8 + 1);
            }
        };
    }

    /** Versions 0 to 8 are a chain, and 8 has 9 in all cells. */
    static void nines(RootedDeltas x) {
        for (int cell = 0; cell < 8; cell++) {
            x.make(cell, cell, 9);
        }
    }

    /** Versions 0 to last; behind 8 each is unlike the one before it in all cells. */
    static Run unlikeInAll(int last) {
        return x -> {
            nines(x);
            for (int version = 9; version <= last; version++) {
                x.mix(version - 1, version % 2 == 1 ? 0 : 8, 255);
            }
        };
    }

    /** 24 versions in one tree, of which 0 is the root: 1 to 11 are a chain, the others made of 0. */
    static void full(RootedDeltas x) {
        chain(11).on(x);
        for (int version = 12; version < 24; version++) {
            x.make(0, version % 8, 9);
        }
    }

    /**
     * Versions 0, 1, 2 and 4; 2 is cut from 1 and 4 is the root of the others; askings, a setting,
     * a full history, a snapshot, a stop at the order 1 and a text that is without a fault.
     */
    static void busy(RootedDeltas x) {
        x.make(0, 0, 1);
        x.make(1, 7, 2);
        x.make(2, 0, 3);
        x.mix(1, 2, 128);
        x.keep();
        x.ask(4);
        x.cut(2);
        x.set(1, 2);
        x.remove(3);
        Check.perform(x, "ask 1;join 0");
        Check.write(x, "root 0;ask 0");
    }

    static Run then(Run first, Call second) {
        return x -> {
            first.on(x);
            second.on(x);
        };
    }

    /** Behind the run, with a text in place of the one that was. */
    static Run written(Run first, String text) {
        return x -> {
            first.on(x);
            Check.write(x, text);
        };
    }

    static Run performed(String text) {
        return x -> Check.perform(x, text);
    }
}
