import java.util.ArrayDeque;
import java.util.ArrayList;
import java.util.Arrays;
import java.util.HashSet;
import java.util.List;
import java.util.Map;
import java.util.Set;
import java.util.TreeMap;
import java.util.regex.Matcher;
import java.util.regex.Pattern;

/**
 * The document once more, by other means than the program's: maps, a search in the graph of kept
 * differences, and a regular expression for the texts. Long runs are held against it.
 */
final class Model {
    private static final int UNKNOWN = -1;
    private static final int BAD_VALUE = -2;
    private static final int FULL = -3;
    private static final int NOT_POSSIBLE = -4;
    private static final int NONE = -5;

    private static final class Version {
        int source;
        int[] row = new int[8];
        boolean kept;
        int asked;

        Version copy() {
            Version other = new Version();
            other.source = source;
            other.row = row.clone();
            other.kept = kept;
            other.asked = asked;
            return other;
        }
    }

    private static final class World {
        TreeMap<Integer, Version> versions = new TreeMap<>();
        Set<Integer> roots = new HashSet<>();
        int[] settings = {1, 6};
        int askings;
        int costs;
        int changes;
        int cuts;

        World copy() {
            World other = new World();
            for (Map.Entry<Integer, Version> entry : versions.entrySet()) {
                other.versions.put(entry.getKey(), entry.getValue().copy());
            }
            other.roots.addAll(roots);
            other.settings = settings.clone();
            other.askings = askings;
            other.costs = costs;
            other.changes = changes;
            other.cuts = cuts;
            return other;
        }
    }

    private interface Act {
        int run();
    }

    private static final String VERSION = " (1[0-9]|2[0-3]|[0-9])";
    private static final String ORDER = "(?:make" + VERSION + " [0-7] [0-9]|mix" + VERSION + VERSION
            + " (?=[0-7])0?1?2?3?4?5?6?7?|ask" + VERSION + "|root" + VERSION + "|join" + VERSION + ")";
    private static final Pattern TEXT = Pattern.compile(ORDER + "(?:;" + ORDER + ")*");

    private World now = new World();
    private World snapshot;
    private final ArrayDeque<World> history = new ArrayDeque<>();
    private String text = "";
    private int[] stop;

    Model() {
        now.versions.put(0, new Version());
        now.roots.add(0);
    }

    private boolean has(int version) {
        return now.versions.containsKey(version);
    }

    private int act(Act act) {
        World before = now.copy();
        int answer = act.run();
        if (answer < 0) {
            now = before;
            return answer;
        }
        history.addLast(before);
        if (history.size() > 4) {
            history.removeFirst();
        }
        return answer;
    }

    private List<Integer> neighbours(int version) {
        List<Integer> found = new ArrayList<>();
        for (Map.Entry<Integer, Version> entry : now.versions.entrySet()) {
            int other = entry.getKey();
            if (!entry.getValue().kept) {
                continue;
            }
            if (other == version) {
                found.add(entry.getValue().source);
            } else if (entry.getValue().source == version) {
                found.add(other);
            }
        }
        return found;
    }

    /** The way between two versions, both included; null if they do not hang together. */
    private List<Integer> path(int from, int to, int cameFrom) {
        if (from == to) {
            return new ArrayList<>(List.of(to));
        }
        for (int next : neighbours(from)) {
            if (next != cameFrom) {
                List<Integer> rest = path(next, to, from);
                if (rest != null) {
                    rest.add(0, from);
                    return rest;
                }
            }
        }
        return null;
    }

    private Set<Integer> tree(int version) {
        Set<Integer> found = new HashSet<>();
        ArrayDeque<Integer> open = new ArrayDeque<>(List.of(version));
        while (!open.isEmpty()) {
            int next = open.pop();
            if (found.add(next)) {
                open.addAll(neighbours(next));
            }
        }
        return found;
    }

    private int rootOf(int version) {
        Set<Integer> found = tree(version);
        found.retainAll(now.roots);
        if (found.size() != 1) {
            throw new IllegalStateException("roots of " + version + ": " + found);
        }
        return found.iterator().next();
    }

    private int cellsOf(List<Integer> path) {
        int cells = 0;
        for (int i = 1; i < path.size(); i++) {
            cells += Integer.bitCount(difference(path.get(i - 1), path.get(i)));
        }
        return cells;
    }

    private int difference(int one, int other) {
        int cells = 0;
        for (int cell = 0; cell < 8; cell++) {
            if (now.versions.get(one).row[cell] != now.versions.get(other).row[cell]) {
                cells += 1 << cell;
            }
        }
        return cells;
    }

    private int add(int source, int[] row) {
        for (int number = 0; number < 24; number++) {
            if (!has(number)) {
                Version version = new Version();
                version.source = source;
                version.row = row;
                version.kept = true;
                now.versions.put(number, version);
                return number;
            }
        }
        return FULL;
    }

    private int doMake(int source, int cell, int number) {
        if (!has(source) || cell < 0 || cell > 7) {
            return UNKNOWN;
        }
        if (number < 0 || number > 9) {
            return BAD_VALUE;
        }
        int[] row = now.versions.get(source).row.clone();
        row[cell] = number;
        return add(source, row);
    }

    private int doMix(int source, int other, int cells) {
        if (!has(source) || !has(other)) {
            return UNKNOWN;
        }
        if (cells < 1 || cells > 255) {
            return BAD_VALUE;
        }
        int[] row = now.versions.get(source).row.clone();
        for (int cell = 0; cell < 8; cell++) {
            if ((cells >> cell) % 2 == 1) {
                row[cell] = now.versions.get(other).row[cell];
            }
        }
        return add(source, row);
    }

    private int doAsk(int version) {
        if (!has(version)) {
            return UNKNOWN;
        }
        int root = rootOf(version);
        List<Integer> way = path(root, version, -1);
        int cost = 1 + cellsOf(way);
        now.askings++;
        now.costs += cost;
        now.versions.get(version).asked++;
        boolean oftener = now.versions.get(version).asked > now.versions.get(root).asked;
        if (way.size() - 1 > now.settings[1]) {
            int last = way.get(way.size() - 2);
            Version made = now.versions.get(version);
            if (version != 0 && made.source == last) {
                made.kept = false;
            } else {
                now.versions.get(last).kept = false;
            }
            now.roots.add(version);
            now.cuts++;
        } else if (root != version
                && (now.settings[0] == 1 || now.settings[0] == 2 && oftener)) {
            now.roots.remove(root);
            now.roots.add(version);
            now.changes++;
        }
        return cost;
    }

    private int doRoot(int version) {
        if (!has(version)) {
            return UNKNOWN;
        }
        int root = rootOf(version);
        if (root == version) {
            return NONE;
        }
        now.roots.remove(root);
        now.roots.add(version);
        return path(version, root, -1).size() - 1;
    }

    private int doJoin(int version) {
        if (!has(version)) {
            return UNKNOWN;
        }
        if (version == 0) {
            return NOT_POSSIBLE;
        }
        if (now.versions.get(version).kept) {
            return NONE;
        }
        now.roots.remove(rootOf(version));
        now.versions.get(version).kept = true;
        return now.roots.size();
    }

    private int doCut(int version) {
        if (!has(version)) {
            return UNKNOWN;
        }
        if (version == 0) {
            return NOT_POSSIBLE;
        }
        if (!now.versions.get(version).kept) {
            return NONE;
        }
        int root = rootOf(version);
        now.versions.get(version).kept = false;
        now.roots.add(tree(version).contains(root) ? now.versions.get(version).source : version);
        return now.roots.size();
    }

    private int made(int version) {
        int found = 0;
        for (Map.Entry<Integer, Version> entry : now.versions.entrySet()) {
            if (entry.getKey() != 0 && entry.getValue().source == version) {
                found++;
            }
        }
        return found;
    }

    private int doRemove(int version) {
        if (!has(version)) {
            return UNKNOWN;
        }
        if (version == 0 || made(version) > 0) {
            return NOT_POSSIBLE;
        }
        Version gone = now.versions.get(version);
        if (now.roots.remove(version) && gone.kept) {
            now.roots.add(gone.source);
        }
        now.versions.remove(version);
        return now.versions.size();
    }

    private int doSet(int which, int value) {
        if (which < 0 || which > 1) {
            return UNKNOWN;
        }
        int least = which == 0 ? 0 : 1;
        int most = which == 0 ? 2 : 30;
        if (value < least || value > most) {
            return BAD_VALUE;
        }
        int previous = now.settings[which];
        now.settings[which] = value;
        return previous == value ? NONE : previous;
    }

    private int doOrder(String order) {
        String[] parts = order.split(" ");
        int first = Integer.parseInt(parts[1]);
        switch (parts[0]) {
            case "make":
                return doMake(first, Integer.parseInt(parts[2]), Integer.parseInt(parts[3]));
            case "mix":
                int cells = 0;
                for (char digit : parts[3].toCharArray()) {
                    cells += 1 << (digit - '0');
                }
                return doMix(first, Integer.parseInt(parts[2]), cells);
            case "ask":
                return doAsk(first);
            case "root":
                return doRoot(first);
            default:
                return doJoin(first);
        }
    }

    private int doPerform() {
        String[] orders = text.split(";");
        for (int i = 0; i < orders.length; i++) {
            int answer = doOrder(orders[i]);
            if (answer < 0 && answer != NONE) {
                stop = new int[] {i, answer};
                return NOT_POSSIBLE;
            }
        }
        return orders.length;
    }

    private static boolean canBegin(String text) {
        Matcher matcher = TEXT.matcher(text);
        return matcher.matches() || matcher.hitEnd();
    }

    int make(int source, int cell, int number) {
        return act(() -> doMake(source, cell, number));
    }

    int mix(int source, int other, int cells) {
        return act(() -> doMix(source, other, cells));
    }

    int remove(int version) {
        return act(() -> doRemove(version));
    }

    int ask(int version) {
        return act(() -> doAsk(version));
    }

    int root(int version) {
        return act(() -> doRoot(version));
    }

    int cut(int version) {
        return act(() -> doCut(version));
    }

    int join(int version) {
        return act(() -> doJoin(version));
    }

    int set(int which, int value) {
        return act(() -> doSet(which, value));
    }

    int type(char character) {
        if (text.length() == 80) {
            return FULL;
        }
        text += character;
        return text.length();
    }

    int clearText() {
        int had = text.length();
        text = "";
        return had;
    }

    int perform() {
        if (!TEXT.matcher(text).matches()) {
            int fault = 0;
            while (fault < text.length() && canBegin(text.substring(0, fault + 1))) {
                fault++;
            }
            return -100 - fault;
        }
        return act(this::doPerform);
    }

    int stopped(int what) {
        if (what < 0 || what > 1) {
            return BAD_VALUE;
        }
        return stop == null ? NONE : stop[what];
    }

    int undo() {
        if (history.isEmpty()) {
            return NONE;
        }
        now = history.removeLast();
        return history.size();
    }

    int keep() {
        snapshot = now.copy();
        return now.versions.size();
    }

    int restore() {
        if (snapshot == null) {
            return NONE;
        }
        return act(() -> {
            now = snapshot.copy();
            return now.versions.size();
        });
    }

    int cell(int version, int cell) {
        return has(version) && cell >= 0 && cell < 8 ? now.versions.get(version).row[cell] : UNKNOWN;
    }

    int version(int version, int what) {
        if (!has(version)) {
            return UNKNOWN;
        }
        Version told = now.versions.get(version);
        List<Integer> way = path(rootOf(version), version, -1);
        int[] answers = {
            version == 0 ? NONE : told.source,
            told.kept ? 1 : 0,
            version == 0 ? 0 : difference(version, told.source),
            way.get(0),
            way.size() - 1,
            cellsOf(way),
            told.asked,
            made(version),
            tree(version).size(),
            1 + cellsOf(way),
        };
        return what < 0 || what >= answers.length ? BAD_VALUE : answers[what];
    }

    int way(int version, int step) {
        if (!has(version)) {
            return UNKNOWN;
        }
        if (step < 0) {
            return BAD_VALUE;
        }
        List<Integer> way = path(rootOf(version), version, -1);
        return step < way.size() ? way.get(step) : NONE;
    }

    int unlike(int one, int other) {
        return has(one) && has(other) ? Integer.bitCount(difference(one, other)) : UNKNOWN;
    }

    private List<Integer> fromZero(int version) {
        List<Integer> way = new ArrayList<>(List.of(version));
        while (way.get(0) != 0) {
            way.add(0, now.versions.get(way.get(0)).source);
        }
        return way;
    }

    int common(int one, int other) {
        if (!has(one) || !has(other)) {
            return UNKNOWN;
        }
        List<Integer> ofOne = fromZero(one);
        List<Integer> ofOther = fromZero(other);
        int alike = 0;
        while (alike < ofOne.size() && alike < ofOther.size()
                && ofOne.get(alike).equals(ofOther.get(alike))) {
            alike++;
        }
        return ofOne.get(alike - 1);
    }

    int ifRoot(int version) {
        if (!has(version)) {
            return UNKNOWN;
        }
        int cost = 0;
        for (int other : tree(version)) {
            cost += now.versions.get(other).asked * (1 + cellsOf(path(version, other, -1)));
        }
        return cost;
    }

    int bestRoot(int version) {
        if (!has(version)) {
            return UNKNOWN;
        }
        int best = 99;
        for (int other : tree(version)) {
            if (best == 99 || ifRoot(other) < ifRoot(best)
                    || ifRoot(other) == ifRoot(best) && other < best) {
                best = other;
            }
        }
        return best;
    }

    private int room() {
        int room = 8 * now.roots.size();
        for (Map.Entry<Integer, Version> entry : now.versions.entrySet()) {
            if (entry.getValue().kept) {
                int cells = difference(entry.getKey(), entry.getValue().source);
                room += 1 + 2 * Integer.bitCount(cells);
            }
        }
        return room;
    }

    int ifCut(int version) {
        if (!has(version)) {
            return UNKNOWN;
        }
        if (version == 0) {
            return NOT_POSSIBLE;
        }
        World before = now.copy();
        if (now.versions.get(version).kept) {
            doCut(version);
        } else {
            doJoin(version);
        }
        int room = room();
        now = before;
        return room;
    }

    int count(int what) {
        int neverAsked = 0;
        int cut = 0;
        int most = 0;
        Set<String> rows = new HashSet<>();
        for (Map.Entry<Integer, Version> entry : now.versions.entrySet()) {
            int number = entry.getKey();
            Version version = entry.getValue();
            neverAsked += version.asked == 0 ? 1 : 0;
            cut += number != 0 && !version.kept ? 1 : 0;
            most = Math.max(most, path(rootOf(number), number, -1).size() - 1);
            rows.add(Arrays.toString(version.row));
        }
        int[] answers = {
            now.versions.size(), now.roots.size(), room(), now.askings, now.costs, neverAsked, cut,
            most, now.changes, now.cuts, now.settings[0], now.settings[1], rows.size(),
            history.size(), text.length(),
        };
        return what < 0 || what >= answers.length ? BAD_VALUE : answers[what];
    }
}
