import java.util.ArrayList;
import java.util.Arrays;
import java.util.List;
import java.util.TreeSet;
import java.util.regex.Matcher;
import java.util.regex.Pattern;

/**
 * The document once more, told as slowly and as near to its words as it goes, with sets, lists and
 * maps: the random runs hold the program against it.
 */
final class PlainModel {
    static final int NONE = -1, NOBODY = -2, UNKNOWN = -1001, OUTSIDE = -1002, NOT = -1003, FULL = -1004;

    private record Change(int[] sets, TreeSet<Integer> reads, int risk) { }

    private record Fault(int weight, int from, Integer till) { }

    private static final class Line {
        int behind;
        int every;
        TreeSet<Integer> held = new TreeSet<>();
        int[] slots = new int[16];

        Line copy() {
            Line other = new Line();
            other.behind = behind;
            other.every = every;
            other.held.addAll(held);
            other.slots = slots.clone();
            return other;
        }
    }

    private record Release(int line, int day, TreeSet<Integer> held, int[] slots) { }

    private record Image(List<Line> lines, List<Release> releases) { }

    private record Token(String kind, String text, int at) { }

    private static final class Breach extends Exception {
        private static final long serialVersionUID = 1L;
        final int number;
        final int at;

        Breach(int number, int at) {
            this.number = number;
            this.at = at;
        }
    }

    private StringBuilder text = new StringBuilder();
    private List<Change> changes = new ArrayList<>();
    private List<Fault> faults = new ArrayList<>();
    private List<Line> lines = new ArrayList<>();
    private List<Release> releases = new ArrayList<>();
    private final Image[] images = new Image[2];
    private List<int[]> freezes = new ArrayList<>();
    private Integer mostRisk = null;
    private Integer leastWeight = null;
    private TreeSet<Integer> only = null;
    private int breachAt = NONE;

    // ---- texts

    int feed(int n, long bytes) {
        if (n < 1 || n > 8) {
            return OUTSIDE;
        }
        if (text.length() + n > 500) {
            return FULL;
        }
        for (int k = n - 1; k >= 0; k--) {
            text.append((char) (bytes >>> 8 * k & 255));
        }
        return text.length();
    }

    private static final Pattern PART = Pattern.compile(" +|([a-z]+)|([0-9]+)|(.)", Pattern.DOTALL);

    private static List<Token> tokens(String text) {
        List<Token> all = new ArrayList<>();
        Matcher m = PART.matcher(text);
        while (m.find()) {
            if (m.group(1) != null) {
                all.add(new Token("word", m.group(1), m.start()));
            } else if (m.group(2) != null) {
                all.add(new Token("number", m.group(2), m.start()));
            } else if (m.group(3) != null) {
                all.add(new Token("sign", m.group(3), m.start()));
            }
        }
        all.add(new Token("end", "", text.length()));
        return all;
    }

    private List<Token> list;
    private int next;
    private int figures;

    private Token here() {
        return list.get(next);
    }

    private boolean may(String what) {
        if (here().text.equals(what)) {
            next++;
            return true;
        }
        return false;
    }

    private void must(String what) throws Breach {
        if (!may(what)) {
            throw new Breach(1, here().at);
        }
    }

    private int number(int least, int most, TreeSet<Integer> already) throws Breach {
        Token t = here();
        if (!t.kind.equals("number")) {
            throw new Breach(1, t.at);
        }
        if (t.text.length() > figures || Integer.parseInt(t.text) < least || Integer.parseInt(t.text) > most) {
            throw new Breach(2, t.at);
        }
        int value = Integer.parseInt(t.text);
        if (already != null && !already.add(value)) {
            throw new Breach(4, t.at);
        }
        next++;
        return value;
    }

    private void begin(int mostFigures) {
        list = tokens(text.toString());
        text.setLength(0);
        next = 0;
        figures = mostFigures;
        breachAt = NONE;
    }

    int trunk() {
        begin(2);
        List<Change> newChanges = new ArrayList<>();
        List<Fault> newFaults = new ArrayList<>();
        try {
            while (!here().kind.equals("end")) {
                int at = here().at;
                if (may("change")) {
                    if (newChanges.size() == 24) {
                        throw new Breach(3, at);
                    }
                    newChanges.add(readChange());
                } else if (may("fault")) {
                    if (newFaults.size() == 10) {
                        throw new Breach(3, at);
                    }
                    newFaults.add(readFault(newChanges.size()));
                } else {
                    throw new Breach(1, at);
                }
            }
        } catch (Breach b) {
            breachAt = b.at;
            return -10 - b.number;
        }
        changes = newChanges;
        faults = newFaults;
        lines = new ArrayList<>();
        releases = new ArrayList<>();
        Arrays.fill(images, null);
        return changes.size();
    }

    private Change readChange() throws Breach {
        int[] sets = new int[16];
        TreeSet<Integer> setSlots = new TreeSet<>();
        TreeSet<Integer> reads = new TreeSet<>();
        int risk = 0;
        if (may("sets")) {
            do {
                int s = number(0, 15, setSlots);
                sets[s] = number(1, 99, null);
            } while (may(","));
        }
        if (may("reads")) {
            do {
                number(0, 15, reads);
            } while (may(","));
        }
        if (may("risk")) {
            risk = number(0, 9, null);
        }
        must(";");
        return new Change(sets, reads, risk);
    }

    private Fault readFault(int told) throws Breach {
        int weight = number(1, 99, null);
        must("from");
        int from = number(0, told - 1, null);
        Integer till = null;
        if (may("till")) {
            till = number(from + 1, told - 1, null);
        }
        must(";");
        return new Fault(weight, from, till);
    }

    int policy() {
        if (text.length() > 120) {
            return NOT;
        }
        begin(3);
        List<int[]> newFreezes = new ArrayList<>();
        Integer risk = null;
        Integer weigh = null;
        TreeSet<Integer> lineSet = null;
        int clauses = 0;
        try {
            while (!here().kind.equals("end")) {
                int at = here().at;
                if (may("freeze")) {
                    if (newFreezes.size() == 8) {
                        throw new Breach(3, at);
                    }
                    int from = number(0, 999, null);
                    newFreezes.add(new int[] {from, number(from, 999, null)});
                } else if (may("risk")) {
                    refuseAgain(risk, at);
                    risk = number(0, 99, null);
                } else if (may("weigh")) {
                    refuseAgain(weigh, at);
                    weigh = number(0, 99, null);
                } else if (may("only")) {
                    refuseAgain(lineSet, at);
                    lineSet = new TreeSet<>();
                    do {
                        number(0, 3, lineSet);
                    } while (may(","));
                } else {
                    throw new Breach(1, at);
                }
                must(";");
                clauses++;
            }
        } catch (Breach b) {
            breachAt = b.at;
            return -10 - b.number;
        }
        freezes = newFreezes;
        mostRisk = risk;
        leastWeight = weigh;
        only = lineSet;
        return clauses;
    }

    private static void refuseAgain(Object told, int at) throws Breach {
        if (told != null) {
            throw new Breach(3, at);
        }
    }

    int breach() {
        return breachAt;
    }

    // ---- what the trunk tells

    private boolean noChange(int c) {
        return c < 0 || c >= changes.size();
    }

    private boolean noFault(int f) {
        return f < 0 || f >= faults.size();
    }

    private boolean noLine(int l) {
        return l < 0 || l >= lines.size();
    }

    private boolean noRelease(int r) {
        return r < 0 || r >= releases.size();
    }

    private static boolean noSlot(int s) {
        return s < 0 || s > 15;
    }

    private static boolean noDay(int d) {
        return d < 0 || d > 999;
    }

    private static boolean beyond(int what, int most) {
        return what < 0 || what > most;
    }

    private static int bits(Iterable<Integer> all) {
        int set = 0;
        for (int k : all) {
            set |= 1 << k;
        }
        return set;
    }

    private TreeSet<Integer> touched(int c) {
        TreeSet<Integer> all = new TreeSet<>(changes.get(c).reads);
        for (int s = 0; s < 16; s++) {
            if (changes.get(c).sets[s] != 0) {
                all.add(s);
            }
        }
        return all;
    }

    private int before(int c, int s) {
        for (int d = c - 1; d >= 0; d--) {
            if (changes.get(d).sets[s] != 0) {
                return changes.get(d).sets[s];
            }
        }
        return 0;
    }

    private TreeSet<Integer> first(int n) {
        TreeSet<Integer> all = new TreeSet<>();
        for (int c = 0; c < n; c++) {
            all.add(c);
        }
        return all;
    }

    private TreeSet<Integer> faultsOf(TreeSet<Integer> held) {
        TreeSet<Integer> all = new TreeSet<>();
        for (int f = 0; f < faults.size(); f++) {
            Fault fault = faults.get(f);
            if (held.contains(fault.from) && (fault.till == null || !held.contains(fault.till))) {
                all.add(f);
            }
        }
        return all;
    }

    private int weight(Iterable<Integer> some) {
        int sum = 0;
        for (int f : some) {
            sum += faults.get(f).weight;
        }
        return sum;
    }

    private int risk(Iterable<Integer> some) {
        int sum = 0;
        for (int c : some) {
            sum += changes.get(c).risk;
        }
        return sum;
    }

    int change(int c, int what) {
        if (noChange(c)) {
            return UNKNOWN;
        }
        if (beyond(what, 4)) {
            return OUTSIDE;
        }
        TreeSet<Integer> all = new TreeSet<>();
        if (what == 0) {
            for (int s = 0; s < 16; s++) {
                if (changes.get(c).sets[s] != 0) {
                    all.add(s);
                }
            }
        } else if (what == 1) {
            all = changes.get(c).reads;
        } else if (what == 2) {
            return changes.get(c).risk;
        } else {
            for (int f = 0; f < faults.size(); f++) {
                Integer one = what == 3 ? Integer.valueOf(faults.get(f).from) : faults.get(f).till;
                if (one != null && one == c) {
                    all.add(f);
                }
            }
        }
        return bits(all);
    }

    int sets(int c, int s) {
        return noChange(c) || noSlot(s) ? UNKNOWN : changes.get(c).sets[s];
    }

    int ahead(int c, int s) {
        return c < 0 || c > changes.size() || noSlot(s) ? UNKNOWN : before(c, s);
    }

    int fault(int f, int what) {
        if (noFault(f)) {
            return UNKNOWN;
        }
        if (beyond(what, 2)) {
            return OUTSIDE;
        }
        Fault one = faults.get(f);
        return what == 0 ? one.weight : what == 1 ? one.from : one.till == null ? NONE : one.till;
    }

    int count(int what) {
        if (beyond(what, 4)) {
            return OUTSIDE;
        }
        return List.of(changes.size(), faults.size(), lines.size(), releases.size(), text.length()).get(what);
    }

    // ---- lines

    int cut(int n) {
        if (beyond(n, changes.size())) {
            return OUTSIDE;
        }
        if (lines.size() == 4) {
            return FULL;
        }
        Line line = new Line();
        line.behind = n;
        line.held = first(n);
        for (int s = 0; s < 16; s++) {
            line.slots[s] = before(n, s);
        }
        lines.add(line);
        return lines.size() - 1;
    }

    int line(int l, int what) {
        if (noLine(l)) {
            return UNKNOWN;
        }
        if (beyond(what, 4)) {
            return OUTSIDE;
        }
        Line line = lines.get(l);
        return List.of(line.behind, bits(line.held), bits(faultsOf(line.held)), risk(line.held), line.every).get(what);
    }

    int value(int l, int s) {
        return noLine(l) || noSlot(s) ? UNKNOWN : lines.get(l).slots[s];
    }

    private TreeSet<Integer> clashing(Line line, int c) {
        TreeSet<Integer> all = new TreeSet<>();
        for (int s : touched(c)) {
            if (line.slots[s] != before(c, s)) {
                all.add(s);
            }
        }
        return all;
    }

    private boolean goOn(Line line, int c) {
        if (line.held.contains(c) || !clashing(line, c).isEmpty()) {
            return false;
        }
        for (int s = 0; s < 16; s++) {
            if (changes.get(c).sets[s] != 0) {
                line.slots[s] = changes.get(c).sets[s];
            }
        }
        line.held.add(c);
        return true;
    }

    private boolean allGoOn(Line line, Iterable<Integer> some) {
        for (int c : some) {
            if (!goOn(line, c)) {
                return false;
            }
        }
        return true;
    }

    int clash(int l, int c) {
        if (noLine(l) || noChange(c)) {
            return UNKNOWN;
        }
        return lines.get(l).held.contains(c) ? NOT : bits(clashing(lines.get(l), c));
    }

    int pick(int l, int c) {
        if (noLine(l) || noChange(c)) {
            return UNKNOWN;
        }
        return goOn(lines.get(l), c) ? lines.get(l).held.size() : NOT;
    }

    int undo(int l, int c) {
        if (noLine(l) || noChange(c)) {
            return UNKNOWN;
        }
        Line line = lines.get(l);
        int[] sets = changes.get(c).sets;
        boolean can = line.held.contains(c);
        for (int s = 0; s < 16; s++) {
            can &= sets[s] == 0 || sets[s] == line.slots[s];
        }
        if (!can) {
            return NOT;
        }
        for (int s = 0; s < 16; s++) {
            if (sets[s] != 0) {
                line.slots[s] = before(c, s);
            }
        }
        line.held.remove(c);
        return line.held.size();
    }

    /** Whether what a change needs can be told; it is gathered, with what that needs, and so on. */
    private boolean gather(Line line, int c, TreeSet<Integer> all) {
        if (line.held.contains(c)) {
            return false;
        }
        for (int s : clashing(line, c)) {
            int last = -1;
            for (int d = 0; d < c; d++) {
                if (changes.get(d).sets[s] != 0) {
                    last = d;
                }
            }
            if (last < 0 || !gather(line, last, all)) {
                return false;
            }
            all.add(last);
        }
        return true;
    }

    /** Null: it is IMPOSSIBLE. */
    private TreeSet<Integer> needed(Line line, int c) {
        TreeSet<Integer> all = new TreeSet<>();
        if (!gather(line, c, all)) {
            return null;
        }
        Line trial = line.copy();
        return allGoOn(trial, all) && goOn(trial, c) ? all : null;
    }

    int needs(int l, int c) {
        if (noLine(l) || noChange(c)) {
            return UNKNOWN;
        }
        TreeSet<Integer> all = needed(lines.get(l), c);
        return all == null ? NONE : bits(all);
    }

    int carry(int l, int c) {
        if (noLine(l) || noChange(c)) {
            return UNKNOWN;
        }
        TreeSet<Integer> all = needed(lines.get(l), c);
        if (all == null) {
            return NOT;
        }
        all.add(c);
        allGoOn(lines.get(l), all);
        return all.size();
    }

    int apart(int l, int c, int d) {
        if (noLine(l) || noChange(c) || noChange(d) || c == d) {
            return UNKNOWN;
        }
        Line line = lines.get(l);
        if (line.held.contains(c) || line.held.contains(d)) {
            return NOT;
        }
        Line one = line.copy();
        Line two = line.copy();
        return allGoOn(one, List.of(c, d)) && allGoOn(two, List.of(d, c)) && Arrays.equals(one.slots, two.slots) ? 1 : 0;
    }

    // ---- fixes

    private TreeSet<Integer> costOf(Line line, int set) {
        TreeSet<Integer> all = new TreeSet<>();
        for (int f = 0; f < faults.size(); f++) {
            if ((set >> f & 1) == 0) {
                continue;
            }
            Integer till = faults.get(f).till;
            if (!faultsOf(line.held).contains(f) || till == null || needed(line, till) == null) {
                return null;
            }
            all.addAll(needed(line, till));
            all.add(till);
        }
        return allGoOn(line.copy(), all) ? all : null;
    }

    int cost(int l, int set) {
        if (noLine(l) || set < 0 || set >= 1 << faults.size()) {
            return UNKNOWN;
        }
        TreeSet<Integer> all = costOf(lines.get(l), set);
        return all == null ? NONE : bits(all);
    }

    int best(int l, int n, int r, int what) {
        if (noLine(l)) {
            return UNKNOWN;
        }
        if (beyond(n, 24) || beyond(r, 99) || beyond(what, 2)) {
            return OUTSIDE;
        }
        int[] best = null;
        for (int set = 0; set < 1 << faults.size(); set++) {
            TreeSet<Integer> all = costOf(lines.get(l), set);
            if (all == null || all.size() > n || risk(all) > r) {
                continue;
            }
            TreeSet<Integer> some = new TreeSet<>();
            for (int f = 0; f < faults.size(); f++) {
                if ((set >> f & 1) != 0) {
                    some.add(f);
                }
            }
            int[] one = {set, weight(some), bits(all), all.size()};
            if (best == null || one[1] > best[1] || one[1] == best[1] && one[3] < best[3]) {
                best = one;
            }
        }
        return best[what];
    }

    int later(int l, int n) {
        if (noLine(l)) {
            return UNKNOWN;
        }
        if (beyond(n, 24)) {
            return OUTSIDE;
        }
        Line line = lines.get(l);
        int behind = line.behind;
        for (int k = 0; k < n && behind < changes.size(); k++) {
            behind++;
        }
        return weight(faultsOf(line.held)) - weight(faultsOf(first(behind)));
    }

    // ---- releases

    int release(int l, int day) {
        if (noLine(l)) {
            return UNKNOWN;
        }
        if (noDay(day)) {
            return OUTSIDE;
        }
        if (!releases.isEmpty() && releases.get(releases.size() - 1).day > day) {
            return NOT;
        }
        if (releases.size() == 20) {
            return FULL;
        }
        Line copy = lines.get(l).copy();
        releases.add(new Release(l, day, copy.held, copy.slots));
        return releases.size() - 1;
    }

    int released(int r, int what) {
        if (noRelease(r)) {
            return UNKNOWN;
        }
        if (beyond(what, 3)) {
            return OUTSIDE;
        }
        Release one = releases.get(r);
        return List.of(one.line, one.day, bits(one.held), bits(faultsOf(one.held))).get(what);
    }

    private static int without(TreeSet<Integer> some, TreeSet<Integer> others) {
        TreeSet<Integer> left = new TreeSet<>(some);
        left.removeAll(others);
        return bits(left);
    }

    int notes(int r, int q, int what) {
        if (noRelease(r) || noRelease(q)) {
            return UNKNOWN;
        }
        if (beyond(what, 3)) {
            return OUTSIDE;
        }
        TreeSet<Integer> one = releases.get(r).held;
        TreeSet<Integer> two = releases.get(q).held;
        if (what >= 2) {
            one = faultsOf(one);
            two = faultsOf(two);
        }
        return what == 0 || what == 3 ? without(two, one) : without(one, two);
    }

    int differs(int r, int q) {
        if (noRelease(r) || noRelease(q)) {
            return UNKNOWN;
        }
        int set = 0;
        for (int s = 0; s < 16; s++) {
            set |= releases.get(r).slots[s] == releases.get(q).slots[s] ? 0 : 1 << s;
        }
        return set;
    }

    private boolean free(int r, int f) {
        return !faultsOf(releases.get(r).held).contains(f);
    }

    private List<Integer> releasesOf(int l) {
        List<Integer> all = new ArrayList<>();
        for (int r = 0; r < releases.size(); r++) {
            if (releases.get(r).line == l) {
                all.add(r);
            }
        }
        return all;
    }

    int freed(int f, int l) {
        if (noFault(f) || noLine(l)) {
            return UNKNOWN;
        }
        List<Integer> all = releasesOf(l);
        for (int r : all) {
            boolean earlierNot = false;
            boolean laterNot = false;
            for (int q : all) {
                earlierNot |= q < r && !free(q, f);
                laterNot |= q > r && !free(q, f);
            }
            if (free(r, f) && earlierNot && !laterNot) {
                return r;
            }
        }
        return NONE;
    }

    int danger(int f, int a, int b) {
        if (noFault(f)) {
            return UNKNOWN;
        }
        if (noDay(a) || noDay(b) || b < a) {
            return OUTSIDE;
        }
        int days = 0;
        for (int day = a; day <= b; day++) {
            for (int l = 0; l < lines.size(); l++) {
                int newest = NONE;
                for (int r : releasesOf(l)) {
                    if (releases.get(r).day <= day) {
                        newest = r;
                    }
                }
                if (newest != NONE && !free(newest, f)) {
                    days++;
                }
            }
        }
        return days;
    }

    int every(int l, int v) {
        if (noLine(l)) {
            return UNKNOWN;
        }
        if (beyond(v, 99)) {
            return OUTSIDE;
        }
        int was = lines.get(l).every;
        lines.get(l).every = v;
        return was;
    }

    int soonest(int f, int d) {
        if (noFault(f)) {
            return UNKNOWN;
        }
        if (noDay(d)) {
            return OUTSIDE;
        }
        int greatest = NOBODY;
        boolean none = false;
        for (Line line : lines) {
            if (!faultsOf(line.held).contains(f)) {
                continue;
            }
            if (line.every == 0 || costOf(line, 1 << f) == null) {
                none = true;
                continue;
            }
            int day = d;
            while (day % line.every != 0) {
                day++;
            }
            greatest = Math.max(greatest, day);
        }
        return none ? NONE : greatest;
    }

    // ---- ready, whence, ways up

    private TreeSet<Integer> readyOn(Line line) {
        TreeSet<Integer> all = new TreeSet<>();
        for (int c = 0; c < changes.size(); c++) {
            if (!line.held.contains(c) && clashing(line, c).isEmpty()) {
                all.add(c);
            }
        }
        return all;
    }

    int ready(int l, boolean far) {
        if (noLine(l)) {
            return UNKNOWN;
        }
        if (!far) {
            return bits(readyOn(lines.get(l)));
        }
        Line trial = lines.get(l).copy();
        while (!readyOn(trial).isEmpty()) {
            goOn(trial, readyOn(trial).first());
        }
        return without(trial.held, lines.get(l).held);
    }

    private void allOrders(Line line, TreeSet<Integer> left, List<Integer> row, List<List<Integer>> found) {
        if (left.isEmpty()) {
            found.add(new ArrayList<>(row));
            return;
        }
        for (int c : left) {
            Line trial = line.copy();
            if (goOn(trial, c)) {
                TreeSet<Integer> rest = new TreeSet<>(left);
                rest.remove(c);
                row.add(c);
                allOrders(trial, rest, row, found);
                row.remove(row.size() - 1);
            }
        }
    }

    private int refusal(int l, int set) {
        if (noLine(l) || set < 0 || set >= 1 << changes.size()) {
            return UNKNOWN;
        }
        return (bits(lines.get(l).held) & set) != 0 || Integer.bitCount(set) > 8 ? NOT : 0;
    }

    private List<List<Integer>> ordersOf(int l, int set) {
        TreeSet<Integer> left = new TreeSet<>();
        for (int c = 0; c < changes.size(); c++) {
            if ((set >> c & 1) != 0) {
                left.add(c);
            }
        }
        List<List<Integer>> found = new ArrayList<>();
        allOrders(lines.get(l), left, new ArrayList<>(), found);
        return found;
    }

    int orders(int l, int set) {
        return refusal(l, set) != 0 ? refusal(l, set) : ordersOf(l, set).size();
    }

    int order(int l, int set, int i, int j) {
        if (refusal(l, set) == UNKNOWN) {
            return UNKNOWN;
        }
        if (i < 0) {
            return OUTSIDE;
        }
        if (refusal(l, set) != 0) {
            return refusal(l, set);
        }
        List<List<Integer>> all = ordersOf(l, set);
        return i >= all.size() || j < 0 || j >= all.get(i).size() ? NONE : all.get(i).get(j);
    }

    int whence(int l, int s) {
        if (noLine(l) || noSlot(s)) {
            return UNKNOWN;
        }
        int last = NONE;
        for (int c : lines.get(l).held) {
            if (changes.get(c).sets[s] != 0 && changes.get(c).sets[s] == lines.get(l).slots[s]) {
                last = c;
            }
        }
        return last;
    }

    int strayed(int l) {
        if (noLine(l)) {
            return UNKNOWN;
        }
        Line line = lines.get(l);
        int set = 0;
        for (int s = 0; s < 16; s++) {
            int due = line.held.isEmpty() ? 0 : before(line.held.last() + 1, s);
            set |= line.slots[s] == due ? 0 : 1 << s;
        }
        return set;
    }

    int bestCut(int a, int b, int what) {
        if (beyond(a, changes.size()) || beyond(b, changes.size()) || b < a || beyond(what, 1)) {
            return OUTSIDE;
        }
        int best = b;
        for (int n = b; n >= a; n--) {
            if (weight(faultsOf(first(n))) < weight(faultsOf(first(best)))) {
                best = n;
            }
        }
        return what == 0 ? best : weight(faultsOf(first(best)));
    }

    int up(int r, int f, int what) {
        if (noRelease(r) || noFault(f)) {
            return UNKNOWN;
        }
        if (beyond(what, 1)) {
            return OUTSIDE;
        }
        if (free(r, f)) {
            return NOT;
        }
        int[] best = {NONE, NONE};
        TreeSet<Integer> had = releases.get(r).held;
        for (int q = r + 1; q < releases.size(); q++) {
            TreeSet<Integer> has = releases.get(q).held;
            if (!free(q, f) || !faultsOf(had).containsAll(faultsOf(has))) {
                continue;
            }
            TreeSet<Integer> came = new TreeSet<>(has);
            came.removeAll(had);
            TreeSet<Integer> went = new TreeSet<>(had);
            went.removeAll(has);
            int toll = risk(came) + risk(went);
            if (best[0] == NONE || toll < best[1]) {
                best = new int[] {q, toll};
            }
        }
        return best[what];
    }

    int spans(int f, int l, int i, int what) {
        if (noFault(f) || noLine(l)) {
            return UNKNOWN;
        }
        if (beyond(what, 1)) {
            return OUTSIDE;
        }
        List<List<Integer>> all = new ArrayList<>();
        boolean open = false;
        for (int r : releasesOf(l)) {
            if (!free(r, f)) {
                if (!open) {
                    all.add(new ArrayList<>());
                }
                all.get(all.size() - 1).add(r);
            }
            open = !free(r, f);
        }
        if (i == NONE) {
            return all.size();
        }
        if (i < 0 || i >= all.size()) {
            return NONE;
        }
        return what == 0 ? all.get(i).get(0) : all.get(i).get(all.get(i).size() - 1);
    }

    int lets(int l, int c, int day) {
        if (noLine(l) || noChange(c)) {
            return UNKNOWN;
        }
        if (noDay(day)) {
            return OUTSIDE;
        }
        Line line = lines.get(l);
        TreeSet<Integer> all = needed(line, c);
        if (all == null) {
            return NOT;
        }
        all.add(c);
        for (int[] freeze : freezes) {
            if (freeze[0] <= day && day <= freeze[1]) {
                return 0;
            }
        }
        if (only != null && !only.contains(l) || mostRisk != null && risk(all) > mostRisk) {
            return 0;
        }
        if (leastWeight == null) {
            return 1;
        }
        Line trial = line.copy();
        allGoOn(trial, all);
        TreeSet<Integer> gone = faultsOf(line.held);
        gone.removeAll(faultsOf(trial.held));
        return weight(gone) >= leastWeight ? 1 : 0;
    }

    // ---- images

    private static List<Line> copies(List<Line> some) {
        List<Line> all = new ArrayList<>();
        for (Line line : some) {
            all.add(line.copy());
        }
        return all;
    }

    int keep(int i) {
        if (beyond(i, 1)) {
            return UNKNOWN;
        }
        images[i] = new Image(copies(lines), new ArrayList<>(releases));
        return 1;
    }

    int goBack(int i) {
        if (beyond(i, 1)) {
            return UNKNOWN;
        }
        if (images[i] == null) {
            return NOT;
        }
        lines = copies(images[i].lines);
        releases = new ArrayList<>(images[i].releases);
        return 1;
    }
}
