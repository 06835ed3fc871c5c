/**
 * Versions of a row of cells, kept as differences along a tree that is rooted anew by use.
 *
 * <p>What each method promises stands in the document, ../shared/DOC.md.
 */
public final class RootedDeltas {
    public static final int UNKNOWN = -1;
    public static final int BAD_VALUE = -2;
    public static final int FULL = -3;
    public static final int NOT_POSSIBLE = -4;
    public static final int NONE = -5;

    private static final int VERSIONS = 24;
    private static final int CELLS = 8;
    private static final int ALL_CELLS = 255;
    private static final int MOST_NUMBER = 9;

    private static final int RULES = 3;
    private static final int RULE_STAYS = 0;
    private static final int RULE_MOVES = 1;
    private static final int FIRST_MOST_STEPS = 6;
    private static final int HIGHEST_MOST_STEPS = 30;

    private static final int ROOM_OF_ROOT = 8;
    private static final int ROOM_OF_DIFFERENCE = 1;
    private static final int ROOM_OF_CELL = 2;

    private static final int HISTORY_LENGTH = 4;
    private static final int TEXT_LENGTH = 80;
    /** More than a text of 80 characters can begin: the shortest order takes six with its ";". */
    private static final int ORDERS = 16;
    private static final int FAULT_BASE = -100;

    private static final int NO_WORD = -1;
    private static final int MAKE = 0;
    private static final int MIX = 1;
    private static final int ASK = 2;
    private static final int ROOT = 3;
    private static final int JOIN = 4;

    private final State now;
    private final State before;
    private final State snapshot;
    private boolean hasSnapshot;
    private final History history;
    private final Reach reach;
    private final Orders orders;
    private boolean hasStopped;
    private int stoppedOrder;
    private int stoppedError;

    public RootedDeltas() {
        now = new State();
        before = new State();
        snapshot = new State();
        history = new History();
        reach = new Reach();
        orders = new Orders();
    }

    // ---- versions

    public int make(int source, int cell, int number) {
        beginAct();
        return endAct(tryMake(source, cell, number));
    }

    public int mix(int source, int other, int cells) {
        beginAct();
        return endAct(tryMix(source, other, cells));
    }

    public int remove(int version) {
        if (!now.has(version)) {
            return UNKNOWN;
        }
        if (version == 0 || now.madeOf(version) > 0) {
            return NOT_POSSIBLE;
        }
        beginAct();
        if (now.isRoot(version) && now.isKept(version)) {
            now.addRoot(now.sourceOf(version));
        }
        now.drop(version);
        return endAct(now.howMany());
    }

    // ---- asking, roots

    public int ask(int version) {
        beginAct();
        return endAct(tryAsk(version));
    }

    public int root(int version) {
        beginAct();
        return endAct(tryRoot(version));
    }

    public int cut(int version) {
        if (!now.has(version)) {
            return UNKNOWN;
        }
        if (version == 0) {
            return NOT_POSSIBLE;
        }
        if (!now.isKept(version)) {
            return NONE;
        }
        beginAct();
        now.cutDifference(version);
        giveRoot(version, now.sourceOf(version));
        return endAct(now.trees());
    }

    public int join(int version) {
        beginAct();
        return endAct(tryJoin(version));
    }

    public int set(int which, int value) {
        if (which != 0 && which != 1) {
            return UNKNOWN;
        }
        boolean inRange = which == 0
                ? value >= 0 && value < RULES
                : value >= 1 && value <= HIGHEST_MOST_STEPS;
        if (!inRange) {
            return BAD_VALUE;
        }
        int previous = which == 0 ? now.rule : now.mostSteps;
        if (previous == value) {
            return NONE;
        }
        beginAct();
        if (which == 0) {
            now.rule = value;
        } else {
            now.mostSteps = value;
        }
        return endAct(previous);
    }

    // ---- texts

    public int type(char character) {
        return orders.add(character) ? orders.length : FULL;
    }

    public int clearText() {
        return orders.clear();
    }

    public int perform() {
        if (!orders.read()) {
            return FAULT_BASE - orders.place;
        }
        beginAct();
        for (int order = 0; order < orders.size; order++) {
            int answer = carryOut(order);
            if (answer < 0 && answer != NONE) {
                return stopAt(order, answer);
            }
        }
        return endAct(orders.size);
    }

    public int stopped(int what) {
        if (what != 0 && what != 1) {
            return BAD_VALUE;
        }
        if (!hasStopped) {
            return NONE;
        }
        return what == 0 ? stoppedOrder : stoppedError;
    }

    // ---- history

    public int undo() {
        return history.takeLatest(now) ? history.size : NONE;
    }

    public int keep() {
        snapshot.copyFrom(now);
        hasSnapshot = true;
        return now.howMany();
    }

    public int restore() {
        if (!hasSnapshot) {
            return NONE;
        }
        beginAct();
        now.copyFrom(snapshot);
        return endAct(now.howMany());
    }

    // ---- what is told

    public int cell(int version, int cell) {
        return now.has(version) && isCell(cell) ? now.numberIn(version, cell) : UNKNOWN;
    }

    public int version(int version, int what) {
        if (!now.has(version)) {
            return UNKNOWN;
        }
        switch (what) {
            case 0:
                return version == 0 ? NONE : now.sourceOf(version);
            case 1:
                return now.isKept(version) ? 1 : 0;
            case 2:
                return now.differenceOf(version);
            case 6:
                return now.askedFor(version);
            case 7:
                return now.madeOf(version);
            default:
                return tellOfTree(version, what);
        }
    }

    public int way(int version, int step) {
        if (!now.has(version)) {
            return UNKNOWN;
        }
        if (step < 0) {
            return BAD_VALUE;
        }
        reach.spread(now, version);
        int rootThere = reach.rootReached(now);
        return step > reach.stepsTo(rootThere) ? NONE : reach.towardsStart(rootThere, step);
    }

    public int unlike(int one, int other) {
        if (!now.has(one) || !now.has(other)) {
            return UNKNOWN;
        }
        return Integer.bitCount(now.unlikeCells(one, other));
    }

    public int common(int one, int other) {
        if (!now.has(one) || !now.has(other)) {
            return UNKNOWN;
        }
        int ahead = now.ancestors(other);
        int nearest = one;
        for (int climbed = 0; climbed < VERSIONS && !Sets.isIn(ahead, nearest); climbed++) {
            nearest = now.sourceOf(nearest);
        }
        return nearest;
    }

    public int ifRoot(int version) {
        return now.has(version) ? costFrom(version) : UNKNOWN;
    }

    public int bestRoot(int version) {
        if (!now.has(version)) {
            return UNKNOWN;
        }
        reach.spread(now, version);
        int tree = reach.reached;
        int best = version;
        int leastCost = costFrom(version);
        for (int candidate = 0; candidate < VERSIONS; candidate++) {
            if (Sets.isIn(tree, candidate)) {
                int cost = costFrom(candidate);
                if (cost < leastCost || cost == leastCost && candidate < best) {
                    best = candidate;
                    leastCost = cost;
                }
            }
        }
        return best;
    }

    public int ifCut(int version) {
        if (!now.has(version)) {
            return UNKNOWN;
        }
        if (version == 0) {
            return NOT_POSSIBLE;
        }
        int gained = ROOM_OF_ROOT - now.roomOf(version);
        return now.isKept(version) ? now.room() + gained : now.room() - gained;
    }

    public int count(int what) {
        switch (what) {
            case 0:
                return now.howMany();
            case 1:
                return now.trees();
            case 2:
                return now.room();
            case 3:
                return now.askings;
            case 4:
                return now.costs;
            case 5:
                return now.neverAsked();
            case 6:
                return now.cuts();
            case 7:
                return longestWay();
            case 8:
                return now.rootChanges;
            case 9:
                return now.wayCuts;
            case 10:
                return now.rule;
            case 11:
                return now.mostSteps;
            case 12:
                return now.unlikeRows();
            case 13:
                return history.size;
            case 14:
                return orders.length;
            default:
                return BAD_VALUE;
        }
    }

    // ---- acts

    /** Copied ahead of the act, as only its end tells whether the history gets the state. */
    private void beginAct() {
        before.copyFrom(now);
    }

    /** Errors and NONE are below 0, and no act that did something answers so. */
    private int endAct(int answer) {
        if (answer >= 0) {
            history.record(before);
        }
        return answer;
    }

    private int tryMake(int source, int cell, int number) {
        if (!now.has(source) || !isCell(cell)) {
            return UNKNOWN;
        }
        if (number < 0 || number > MOST_NUMBER) {
            return BAD_VALUE;
        }
        int made = now.lowestFree();
        if (made == VERSIONS) {
            return FULL;
        }
        now.copyCells(source, made, ALL_CELLS);
        now.putNumber(made, cell, number);
        now.hang(made, source);
        return made;
    }

    private int tryMix(int source, int other, int cells) {
        if (!now.has(source) || !now.has(other)) {
            return UNKNOWN;
        }
        if (cells < 1 || cells > ALL_CELLS) {
            return BAD_VALUE;
        }
        int made = now.lowestFree();
        if (made == VERSIONS) {
            return FULL;
        }
        now.copyCells(source, made, ALL_CELLS);
        now.copyCells(other, made, cells);
        now.hang(made, source);
        return made;
    }

    private int tryAsk(int version) {
        if (!now.has(version)) {
            return UNKNOWN;
        }
        reach.spread(now, version);
        int elder = reach.rootReached(now);
        int steps = reach.stepsTo(elder);
        int cost = 1 + reach.cellsTo(elder);
        now.noteAsking(version, cost);
        if (steps > now.mostSteps) {
            now.cutBetween(version, reach.towardsStart(elder, steps - 1));
            now.addRoot(version);
            now.wayCuts++;
        } else if (elder != version && rulePrefers(version, elder)) {
            now.moveRoot(elder, version);
            now.rootChanges++;
        }
        return cost;
    }

    private boolean rulePrefers(int version, int elder) {
        if (now.rule == RULE_STAYS) {
            return false;
        }
        return now.rule == RULE_MOVES || now.askedFor(version) > now.askedFor(elder);
    }

    private int tryRoot(int version) {
        if (!now.has(version)) {
            return UNKNOWN;
        }
        if (now.isRoot(version)) {
            return NONE;
        }
        reach.spread(now, version);
        int elder = reach.rootReached(now);
        now.moveRoot(elder, version);
        return reach.stepsTo(elder);
    }

    private int tryJoin(int version) {
        if (!now.has(version)) {
            return UNKNOWN;
        }
        if (version == 0) {
            return NOT_POSSIBLE;
        }
        if (now.isKept(version)) {
            return NONE;
        }
        reach.spread(now, version);
        now.dropRoot(reach.rootReached(now));
        now.keepDifference(version);
        return now.trees();
    }

    /** Behind a cut one of both sides has the root that the tree had; the other one gets its own. */
    private void giveRoot(int version, int source) {
        reach.spread(now, version);
        boolean rootIsBehind = (reach.reached & now.roots) != 0;
        now.addRoot(rootIsBehind ? source : version);
    }

    /** The orders ahead of the one that stops are taken back, too. */
    private int stopAt(int order, int error) {
        hasStopped = true;
        stoppedOrder = order;
        stoppedError = error;
        now.copyFrom(before);
        return NOT_POSSIBLE;
    }

    private int carryOut(int order) {
        int first = orders.firstOf(order);
        int second = orders.secondOf(order);
        int third = orders.thirdOf(order);
        switch (orders.wordOf(order)) {
            case MAKE:
                return tryMake(first, second, third);
            case MIX:
                return tryMix(first, second, third);
            case ASK:
                return tryAsk(first);
            case ROOT:
                return tryRoot(first);
            default:
                return tryJoin(first);
        }
    }

    // ---- questions

    private int tellOfTree(int version, int what) {
        reach.spread(now, version);
        int rootThere = reach.rootReached(now);
        switch (what) {
            case 3:
                return rootThere;
            case 4:
                return reach.stepsTo(rootThere);
            case 5:
                return reach.cellsTo(rootThere);
            case 8:
                return Integer.bitCount(reach.reached);
            case 9:
                return 1 + reach.cellsTo(rootThere);
            default:
                return BAD_VALUE;
        }
    }

    private int costFrom(int start) {
        reach.spread(now, start);
        int cost = 0;
        for (int version = 0; version < VERSIONS; version++) {
            if (Sets.isIn(reach.reached, version)) {
                cost += now.askedFor(version) * (1 + reach.cellsTo(version));
            }
        }
        return cost;
    }

    private int longestWay() {
        int longest = 0;
        for (int version = 0; version < VERSIONS; version++) {
            if (now.isRoot(version)) {
                reach.spread(now, version);
                longest = Math.max(longest, reach.farthest());
            }
        }
        return longest;
    }

    private static boolean isCell(int cell) {
        return cell >= 0 && cell < CELLS;
    }

    /** The one place where rows of numbers are read and written, so that no index goes untested. */
    static final class Rows {
        static int at(int[] row, int index) {
            return index >= 0 && index < row.length ? row[index] : 0;
        }

        static void put(int[] row, int index, int value) {
            if (index >= 0 && index < row.length) {
                row[index] = value;
            }
        }

        static void copy(int[] from, int[] to) {
            System.arraycopy(from, 0, to, 0, Math.min(from.length, to.length));
        }
    }

    /** Sets of versions or of cells, as the bits of a number. */
    static final class Sets {
        static int of(int member) {
            return 1 << member;
        }

        static boolean isIn(int set, int member) {
            return member >= 0 && member < VERSIONS && (set >>> member & 1) != 0;
        }
    }

    /** All that undo() and restore() bring back. */
    static final class State {
        int versions;
        int kept;
        int roots;
        final int[] source;
        final int[] difference;
        final int[] asked;
        final int[] numbers;
        int rule;
        int mostSteps;
        int askings;
        int costs;
        int rootChanges;
        int wayCuts;

        State() {
            versions = 1;
            roots = 1;
            source = new int[VERSIONS];
            difference = new int[VERSIONS];
            asked = new int[VERSIONS];
            numbers = new int[VERSIONS * CELLS];
            rule = RULE_MOVES;
            mostSteps = FIRST_MOST_STEPS;
        }

        void copyFrom(State other) {
            versions = other.versions;
            kept = other.kept;
            roots = other.roots;
            Rows.copy(other.source, source);
            Rows.copy(other.difference, difference);
            Rows.copy(other.asked, asked);
            Rows.copy(other.numbers, numbers);
            rule = other.rule;
            mostSteps = other.mostSteps;
            askings = other.askings;
            costs = other.costs;
            rootChanges = other.rootChanges;
            wayCuts = other.wayCuts;
        }

        boolean has(int version) {
            return Sets.isIn(versions, version);
        }

        boolean isKept(int version) {
            return Sets.isIn(kept, version);
        }

        boolean isRoot(int version) {
            return Sets.isIn(roots, version);
        }

        int sourceOf(int version) {
            return Rows.at(source, version);
        }

        int differenceOf(int version) {
            return Rows.at(difference, version);
        }

        int askedFor(int version) {
            return Rows.at(asked, version);
        }

        int numberIn(int version, int cell) {
            return Rows.at(numbers, version * CELLS + cell);
        }

        void putNumber(int version, int cell, int number) {
            Rows.put(numbers, version * CELLS + cell, number);
        }

        void copyCells(int from, int to, int cells) {
            for (int cell = 0; cell < CELLS; cell++) {
                if (Sets.isIn(cells, cell)) {
                    putNumber(to, cell, numberIn(from, cell));
                }
            }
        }

        int unlikeCells(int one, int other) {
            int cells = 0;
            for (int cell = 0; cell < CELLS; cell++) {
                if (numberIn(one, cell) != numberIn(other, cell)) {
                    cells |= Sets.of(cell);
                }
            }
            return cells;
        }

        /** Versions never change, so that the difference can be kept from here on. */
        void hang(int version, int from) {
            versions |= Sets.of(version);
            Rows.put(source, version, from);
            Rows.put(difference, version, unlikeCells(version, from));
            Rows.put(asked, version, 0);
            keepDifference(version);
        }

        void drop(int version) {
            versions &= ~Sets.of(version);
            cutDifference(version);
            dropRoot(version);
        }

        void keepDifference(int version) {
            kept |= Sets.of(version);
        }

        void cutDifference(int version) {
            kept &= ~Sets.of(version);
        }

        /** A difference belongs to the one of both that was made of the other one. */
        void cutBetween(int one, int other) {
            boolean oneWasMade = one != 0 && sourceOf(one) == other;
            cutDifference(oneWasMade ? one : other);
        }

        void addRoot(int version) {
            roots |= Sets.of(version);
        }

        void dropRoot(int version) {
            roots &= ~Sets.of(version);
        }

        void moveRoot(int from, int to) {
            dropRoot(from);
            addRoot(to);
        }

        void noteAsking(int version, int cost) {
            Rows.put(asked, version, askedFor(version) + 1);
            askings++;
            costs += cost;
        }

        /** VERSIONS itself if no number is free. */
        int lowestFree() {
            int number = 0;
            while (number < VERSIONS && has(number)) {
                number++;
            }
            return number;
        }

        int howMany() {
            return Integer.bitCount(versions);
        }

        int trees() {
            return Integer.bitCount(roots);
        }

        int cuts() {
            return Integer.bitCount(versions & ~kept & ~Sets.of(0));
        }

        int madeOf(int version) {
            int made = 0;
            for (int other = 1; other < VERSIONS; other++) {
                if (has(other) && sourceOf(other) == version) {
                    made++;
                }
            }
            return made;
        }

        /** The version itself is among them. */
        int ancestors(int version) {
            int found = Sets.of(version) | Sets.of(0);
            int above = version;
            for (int climbed = 0; climbed < VERSIONS && above != 0; climbed++) {
                above = sourceOf(above);
                found |= Sets.of(above);
            }
            return found;
        }

        int roomOf(int version) {
            return ROOM_OF_DIFFERENCE + ROOM_OF_CELL * Integer.bitCount(differenceOf(version));
        }

        int room() {
            int all = ROOM_OF_ROOT * trees();
            for (int version = 1; version < VERSIONS; version++) {
                if (isKept(version)) {
                    all += roomOf(version);
                }
            }
            return all;
        }

        int neverAsked() {
            int found = 0;
            for (int version = 0; version < VERSIONS; version++) {
                if (has(version) && askedFor(version) == 0) {
                    found++;
                }
            }
            return found;
        }

        int unlikeRows() {
            int found = 0;
            for (int version = 0; version < VERSIONS; version++) {
                if (has(version) && !hasRowBelow(version)) {
                    found++;
                }
            }
            return found;
        }

        boolean hasRowBelow(int version) {
            for (int lower = 0; lower < version && lower < VERSIONS; lower++) {
                if (has(lower) && unlikeCells(lower, version) == 0) {
                    return true;
                }
            }
            return false;
        }
    }

    /** The latest states, the oldest one first; their rows are made once and used again. */
    static final class History {
        final State[] states;
        int size;

        History() {
            states = new State[HISTORY_LENGTH];
            for (int i = 0; i < states.length; i++) {
                states[i] = new State();
            }
        }

        void record(State state) {
            if (size >= HISTORY_LENGTH) {
                dropOldest();
            }
            State place = stateAt(size);
            if (place != null) {
                place.copyFrom(state);
                size++;
            }
        }

        boolean takeLatest(State into) {
            State latest = stateAt(size - 1);
            if (latest == null) {
                return false;
            }
            into.copyFrom(latest);
            size--;
            return true;
        }

        private State stateAt(int index) {
            return index >= 0 && index < states.length ? states[index] : null;
        }

        private void dropOldest() {
            State oldest = stateAt(0);
            for (int i = 1; i < states.length; i++) {
                states[i - 1] = states[i];
            }
            if (states.length > 0) {
                states[states.length - 1] = oldest;
                size = states.length - 1;
            }
        }
    }

    /** How far the versions of one tree are from one of them, the start, along kept differences. */
    static final class Reach {
        int reached;
        final int[] steps;
        final int[] cells;
        final int[] before;

        Reach() {
            steps = new int[VERSIONS];
            cells = new int[VERSIONS];
            before = new int[VERSIONS];
        }

        void spread(State state, int start) {
            reached = Sets.of(start);
            Rows.put(steps, start, 0);
            Rows.put(cells, start, 0);
            Rows.put(before, start, start);
            int reachedAhead = 0;
            for (int round = 0; round < VERSIONS && reached != reachedAhead; round++) {
                reachedAhead = reached;
                for (int version = 1; version < VERSIONS; version++) {
                    if (state.isKept(version)) {
                        spreadAlong(state, version);
                    }
                }
            }
        }

        private void spreadAlong(State state, int version) {
            int source = state.sourceOf(version);
            boolean fromVersion = Sets.isIn(reached, version);
            if (fromVersion == Sets.isIn(reached, source)) {
                return;
            }
            int from = fromVersion ? version : source;
            int to = fromVersion ? source : version;
            reached |= Sets.of(to);
            Rows.put(steps, to, stepsTo(from) + 1);
            Rows.put(cells, to, cellsTo(from) + Integer.bitCount(state.differenceOf(version)));
            Rows.put(before, to, from);
        }

        int rootReached(State state) {
            return Integer.numberOfTrailingZeros(reached & state.roots);
        }

        int stepsTo(int version) {
            return Rows.at(steps, version);
        }

        int cellsTo(int version) {
            return Rows.at(cells, version);
        }

        /** From the root it leads back along the way of the start. */
        int towardsStart(int from, int howFar) {
            int place = from;
            for (int step = 0; step < howFar && step < VERSIONS; step++) {
                place = Rows.at(before, place);
            }
            return place;
        }

        int farthest() {
            int most = 0;
            for (int version = 0; version < VERSIONS; version++) {
                if (Sets.isIn(reached, version)) {
                    most = Math.max(most, stepsTo(version));
                }
            }
            return most;
        }
    }

    /** The text, and the orders that were read from it. */
    static final class Orders {
        final char[] text;
        int length;
        /** How far the text has been read: the fault, where reading had to end. */
        int place;
        int size;
        final int[] words;
        final int[] first;
        final int[] second;
        final int[] third;

        Orders() {
            text = new char[TEXT_LENGTH];
            words = new int[ORDERS];
            first = new int[ORDERS];
            second = new int[ORDERS];
            third = new int[ORDERS];
        }

        boolean add(char character) {
            if (length < 0 || length >= text.length) {
                return false;
            }
            text[length] = character;
            length++;
            return true;
        }

        int clear() {
            int had = length;
            length = 0;
            return had;
        }

        int wordOf(int order) {
            return Rows.at(words, order);
        }

        int firstOf(int order) {
            return Rows.at(first, order);
        }

        int secondOf(int order) {
            return Rows.at(second, order);
        }

        int thirdOf(int order) {
            return Rows.at(third, order);
        }

        /** False if the text has a fault, which is then at the place. */
        boolean read() {
            place = 0;
            size = 0;
            for (int order = 0; order < ORDERS; order++) {
                if (!readOrder()) {
                    return false;
                }
                size++;
                if (place >= length) {
                    return true;
                }
                if (!readSign(';')) {
                    return false;
                }
            }
            return false;
        }

        private boolean readOrder() {
            int word = readWord();
            Rows.put(words, size, word);
            switch (word) {
                case NO_WORD:
                    return false;
                case MAKE:
                    return readNumber(first, VERSIONS - 1) && readNumber(second, CELLS - 1)
                            && readNumber(third, MOST_NUMBER);
                case MIX:
                    return readNumber(first, VERSIONS - 1) && readNumber(second, VERSIONS - 1)
                            && readCells();
                default:
                    return readNumber(first, VERSIONS - 1);
            }
        }

        /** The place goes as far as any word allows, so that a fault is found where it is. */
        private int readWord() {
            int farthest = 0;
            for (int word = MAKE; word <= JOIN; word++) {
                String letters = lettersOf(word);
                int alike = alikeFromHere(letters);
                if (alike == letters.length()) {
                    place += alike;
                    return word;
                }
                farthest = Math.max(farthest, alike);
            }
            place += farthest;
            return NO_WORD;
        }

        private int alikeFromHere(String letters) {
            int alike = 0;
            while (alike < letters.length() && signAt(place + alike) == letters.charAt(alike)) {
                alike++;
            }
            return alike;
        }

        private static String lettersOf(int word) {
            switch (word) {
                case MAKE:
                    return "make";
                case MIX:
                    return "mix";
                case ASK:
                    return "ask";
                case ROOT:
                    return "root";
                default:
                    return "join";
            }
        }

        private boolean readNumber(int[] into, int most) {
            if (!readSign(' ')) {
                return false;
            }
            int number = digitAt(place);
            if (number < 0 || number > most) {
                return false;
            }
            place++;
            if (number > 0) {
                number = readMoreDigits(number, most);
            }
            Rows.put(into, size, number);
            return true;
        }

        /** Digits that would be too many are left standing: there the text has its fault. */
        private int readMoreDigits(int begun, int most) {
            int number = begun;
            while (place < length) {
                int digit = digitAt(place);
                if (digit < 0 || number * 10 + digit > most) {
                    return number;
                }
                number = number * 10 + digit;
                place++;
            }
            return number;
        }

        private boolean readCells() {
            if (!readSign(' ')) {
                return false;
            }
            int cells = 0;
            int lowestNext = 0;
            while (place < length) {
                int cell = digitAt(place);
                if (cell < lowestNext || cell >= CELLS) {
                    break;
                }
                cells |= Sets.of(cell);
                lowestNext = cell + 1;
                place++;
            }
            Rows.put(third, size, cells);
            return cells != 0;
        }

        private boolean readSign(char sign) {
            if (signAt(place) != sign) {
                return false;
            }
            place++;
            return true;
        }

        /** -1 behind the end of the text. */
        private int signAt(int index) {
            return index >= 0 && index < length && index < text.length ? text[index] : -1;
        }

        /** -1 if there is no digit. */
        private int digitAt(int index) {
            int sign = signAt(index);
            return sign >= '0' && sign <= '9' ? sign - '0' : -1;
        }
    }
}
