/*
 * Changes of a trunk that are carried back to lines, the faults that come and go with them, and the
 * releases that are made of the lines. The document in ../shared/DOC.md says what each call answers.
 *
 * Slot values stand in rows of 16, many rows in one array, made once: a call makes no object, as all
 * calls of a run share one room.
 */
public final class CarriedBack {
    public static final int NONE = -1, NOBODY = -2, UNKNOWN = -1001, OUTSIDE = -1002, NOT = -1003, FULL = -1004;

    private static final int SLOTS = 16;
    private static final int MOST_CHANGES = 24;
    private static final int MOST_FAULTS = 10;
    private static final int MOST_LINES = 4;
    private static final int MOST_RELEASES = 20;
    private static final int MOST_BYTES = 500;
    private static final int MOST_RULE_BYTES = 120;
    private static final int MOST_FREEZES = 8;
    private static final int MOST_IN_ORDER = 8;
    private static final int LAST_DAY = 999;
    private static final int LAST_EVERY = 99;
    private static final int LAST_RISK_OF_FIXES = 99;
    private static final int IMAGES = 2;

    private static final int CANNOT_STAND = 1;
    private static final int BAD_NUMBER = 2;
    private static final int TOO_MANY = 3;
    private static final int AGAIN = 4;

    private final Text text = new Text();
    private final Reader reader = new Reader(text);
    private final Trunk told = new Trunk();
    private final Trunk draft = new Trunk();
    private final Rules rules = new Rules();
    private final Rules ruleDraft = new Rules();
    private final Book book = new Book();
    private final Book imageZero = new Book();
    private final Book imageOne = new Book();
    private final Picker picker = new Picker(told, book);
    private final Fixes fixes = new Fixes(told, picker);
    private final Rows rows = new Rows(told);
    private int keptImages = 0;
    private int breachByte = NONE;

    public CarriedBack() {
    }

    // ---- the trunk

    public int feed(int n, long bytes) {
        if (n < 1 || n > 8) {
            return OUTSIDE;
        }
        if (text.length + n > MOST_BYTES) {
            return FULL;
        }
        text.append(n, bytes);
        return text.length;
    }

    public int trunk() {
        reader.begin(2);
        boolean whole = draft.readFrom(reader);
        text.length = 0;
        breachByte = reader.breachAt;
        if (!whole) {
            return -10 - reader.breach;
        }
        told.become(draft);
        book.lines = 0;
        book.releases = 0;
        keptImages = 0;
        return told.changes;
    }

    public int policy() {
        if (text.length > MOST_RULE_BYTES) {
            return NOT;
        }
        reader.begin(3);
        boolean whole = ruleDraft.readFrom(reader);
        text.length = 0;
        breachByte = reader.breachAt;
        if (!whole) {
            return -10 - reader.breach;
        }
        rules.become(ruleDraft);
        return rules.clauses;
    }

    public int breach() {
        return breachByte;
    }

    public int change(int c, int what) {
        if (!told.hasChange(c)) {
            return UNKNOWN;
        }
        switch (what) {
            case 0:
                return told.setSlots[c];
            case 1:
                return told.readSlots[c];
            case 2:
                return told.risks[c];
            case 3:
                return told.comingWith(c);
            case 4:
                return told.goingWith(c);
            default:
                return OUTSIDE;
        }
    }

    public int sets(int c, int s) {
        if (!told.hasChange(c) || !isSlot(s)) {
            return UNKNOWN;
        }
        return told.settings[c * SLOTS + s];
    }

    public int ahead(int c, int s) {
        if (c < 0 || c > told.changes || !isSlot(s)) {
            return UNKNOWN;
        }
        return told.before[c * SLOTS + s];
    }

    public int fault(int f, int what) {
        if (!told.hasFault(f)) {
            return UNKNOWN;
        }
        switch (what) {
            case 0:
                return told.weights[f];
            case 1:
                return told.bringers[f];
            case 2:
                return told.removers[f];
            default:
                return OUTSIDE;
        }
    }

    public int count(int what) {
        switch (what) {
            case 0:
                return told.changes;
            case 1:
                return told.faults;
            case 2:
                return book.lines;
            case 3:
                return book.releases;
            case 4:
                return text.length;
            default:
                return OUTSIDE;
        }
    }

    // ---- lines

    public int cut(int n) {
        if (n < 0 || n > told.changes) {
            return OUTSIDE;
        }
        if (book.lines >= MOST_LINES) {
            return FULL;
        }
        return book.addLine(n, told);
    }

    public int line(int l, int what) {
        if (!book.hasLine(l)) {
            return UNKNOWN;
        }
        switch (what) {
            case 0:
                return book.cutBehind[l];
            case 1:
                return book.inLine[l];
            case 2:
                return told.faultsIn(book.inLine[l]);
            case 3:
                return told.riskOf(book.inLine[l]);
            case 4:
                return book.trainEvery[l];
            default:
                return OUTSIDE;
        }
    }

    public int value(int l, int s) {
        if (!book.hasLine(l) || !isSlot(s)) {
            return UNKNOWN;
        }
        return book.lineValues[l * SLOTS + s];
    }

    public int clash(int l, int c) {
        if (!book.hasLine(l) || !told.hasChange(c)) {
            return UNKNOWN;
        }
        if (has(book.inLine[l], c)) {
            return NOT;
        }
        return told.clashOf(c, book.lineValues, l);
    }

    public int pick(int l, int c) {
        if (!book.hasLine(l) || !told.hasChange(c)) {
            return UNKNOWN;
        }
        if (has(book.inLine[l], c) || told.clashOf(c, book.lineValues, l) != 0) {
            return NOT;
        }
        book.putOn(l, c, told);
        return Integer.bitCount(book.inLine[l]);
    }

    public int undo(int l, int c) {
        if (!book.hasLine(l) || !told.hasChange(c)) {
            return UNKNOWN;
        }
        if (!has(book.inLine[l], c) || !told.stillSet(c, book.lineValues, l)) {
            return NOT;
        }
        book.takeOff(l, c, told);
        return Integer.bitCount(book.inLine[l]);
    }

    public int needs(int l, int c) {
        if (!book.hasLine(l) || !told.hasChange(c)) {
            return UNKNOWN;
        }
        return picker.needsOf(l, c);
    }

    public int carry(int l, int c) {
        if (!book.hasLine(l) || !told.hasChange(c)) {
            return UNKNOWN;
        }
        int first = picker.needsOf(l, c);
        if (first == NONE) {
            return NOT;
        }
        int all = first | 1 << c;
        for (int k = 0; k < told.changes; k++) {
            if (has(all, k)) {
                book.putOn(l, k, told);
            }
        }
        return Integer.bitCount(all);
    }

    public int apart(int l, int c, int d) {
        if (!book.hasLine(l) || !told.hasChange(c) || !told.hasChange(d) || c == d) {
            return UNKNOWN;
        }
        if (has(book.inLine[l], c) || has(book.inLine[l], d)) {
            return NOT;
        }
        return picker.areApart(l, c, d) ? 1 : 0;
    }

    // ---- fixes

    public int cost(int l, int faults) {
        if (!book.hasLine(l) || !told.hasFaults(faults)) {
            return UNKNOWN;
        }
        fixes.lookAt(l, faults);
        return fixes.costOf(faults);
    }

    public int best(int l, int n, int r, int what) {
        if (!book.hasLine(l)) {
            return UNKNOWN;
        }
        if (n < 0 || n > MOST_CHANGES || r < 0 || r > LAST_RISK_OF_FIXES) {
            return OUTSIDE;
        }
        if (what < 0 || what > 2) {
            return OUTSIDE;
        }
        fixes.lookAt(l, firstOnes(told.faults));
        fixes.findBest(n, r);
        if (what == 0) {
            return fixes.bestFaults;
        }
        return what == 1 ? fixes.bestWeight : fixes.bestCost;
    }

    public int later(int l, int n) {
        if (!book.hasLine(l)) {
            return UNKNOWN;
        }
        if (n < 0 || n > MOST_CHANGES) {
            return OUTSIDE;
        }
        int behind = Math.min(book.cutBehind[l] + n, told.changes);
        return told.weightIn(book.inLine[l]) - told.weightIn(firstOnes(behind));
    }

    // ---- releases

    public int release(int l, int day) {
        if (!book.hasLine(l)) {
            return UNKNOWN;
        }
        if (!isDay(day)) {
            return OUTSIDE;
        }
        if (day < book.lastDay()) {
            return NOT;
        }
        if (book.releases >= MOST_RELEASES) {
            return FULL;
        }
        return book.addRelease(l, day);
    }

    public int released(int r, int what) {
        if (!book.hasRelease(r)) {
            return UNKNOWN;
        }
        switch (what) {
            case 0:
                return book.ofLine[r];
            case 1:
                return book.onDay[r];
            case 2:
                return book.inRelease[r];
            case 3:
                return told.faultsIn(book.inRelease[r]);
            default:
                return OUTSIDE;
        }
    }

    public int notes(int r, int q, int what) {
        if (!book.hasRelease(r) || !book.hasRelease(q)) {
            return UNKNOWN;
        }
        int then = book.inRelease[r];
        int now = book.inRelease[q];
        switch (what) {
            case 0:
                return now & ~then;
            case 1:
                return then & ~now;
            case 2:
                return told.faultsIn(then) & ~told.faultsIn(now);
            case 3:
                return told.faultsIn(now) & ~told.faultsIn(then);
            default:
                return OUTSIDE;
        }
    }

    public int differs(int r, int q) {
        if (!book.hasRelease(r) || !book.hasRelease(q)) {
            return UNKNOWN;
        }
        int other = 0;
        for (int s = 0; s < SLOTS; s++) {
            if (book.releaseValues[r * SLOTS + s] != book.releaseValues[q * SLOTS + s]) {
                other |= 1 << s;
            }
        }
        return other;
    }

    public int freed(int f, int l) {
        if (!told.hasFault(f) || !book.hasLine(l)) {
            return UNKNOWN;
        }
        int found = NONE;
        boolean wasNot = false;
        for (int r = 0; r < book.releases; r++) {
            if (book.ofLine[r] != l) {
                continue;
            }
            if (!isFree(r, f)) {
                wasNot = true;
                found = NONE;
            } else if (wasNot && found == NONE) {
                found = r;
            }
        }
        return found;
    }

    public int danger(int f, int a, int b) {
        if (!told.hasFault(f)) {
            return UNKNOWN;
        }
        if (!isDay(a) || !isDay(b) || b < a) {
            return OUTSIDE;
        }
        int days = 0;
        for (int r = 0; r < book.releases; r++) {
            if (!isFree(r, f)) {
                int next = book.nextOfLine(r);
                int last = next == NONE ? b : Math.min(b, book.onDay[next] - 1);
                int first = Math.max(a, book.onDay[r]);
                days += Math.max(0, last - first + 1);
            }
        }
        return days;
    }

    public int every(int l, int v) {
        if (!book.hasLine(l)) {
            return UNKNOWN;
        }
        if (v < 0 || v > LAST_EVERY) {
            return OUTSIDE;
        }
        int was = book.trainEvery[l];
        book.trainEvery[l] = v;
        return was;
    }

    public int soonest(int f, int d) {
        if (!told.hasFault(f)) {
            return UNKNOWN;
        }
        if (!isDay(d)) {
            return OUTSIDE;
        }
        int last = NOBODY;
        for (int l = 0; l < book.lines; l++) {
            if (has(told.faultsIn(book.inLine[l]), f)) {
                int day = trainWithFix(l, f, d);
                if (day == NONE) {
                    return NONE;
                }
                last = Math.max(last, day);
            }
        }
        return last;
    }

    // ---- ready, whence, ways up

    public int ready(int l, boolean far) {
        if (!book.hasLine(l)) {
            return UNKNOWN;
        }
        return far ? picker.inReach(l) : picker.readyOn(l);
    }

    public int orders(int l, int set) {
        int refusal = refusalOfRow(l, set);
        if (refusal != 0) {
            return refusal;
        }
        rows.build(set, book.lineValues, l);
        return rows.howMany();
    }

    public int order(int l, int set, int i, int j) {
        int refusal = refusalOfRow(l, set);
        if (refusal == UNKNOWN) {
            return UNKNOWN;
        }
        if (i < 0) {
            return OUTSIDE;
        }
        if (refusal != 0) {
            return refusal;
        }
        rows.build(set, book.lineValues, l);
        return rows.memberOf(i, j);
    }

    public int whence(int l, int s) {
        if (!book.hasLine(l) || !isSlot(s)) {
            return UNKNOWN;
        }
        int held = book.lineValues[l * SLOTS + s];
        for (int c = told.changes - 1; c >= 0; c--) {
            if (has(book.inLine[l], c) && has(told.setSlots[c], s) && told.settings[c * SLOTS + s] == held) {
                return c;
            }
        }
        return NONE;
    }

    public int strayed(int l) {
        if (!book.hasLine(l)) {
            return UNKNOWN;
        }
        int behind = 0;
        for (int c = 0; c < told.changes; c++) {
            if (has(book.inLine[l], c)) {
                behind = c + 1;
            }
        }
        int other = 0;
        for (int s = 0; s < SLOTS; s++) {
            if (book.lineValues[l * SLOTS + s] != told.before[behind * SLOTS + s]) {
                other |= 1 << s;
            }
        }
        return other;
    }

    public int bestCut(int a, int b, int what) {
        if (a < 0 || a > told.changes || b < a || b > told.changes) {
            return OUTSIDE;
        }
        if (what < 0 || what > 1) {
            return OUTSIDE;
        }
        int found = a;
        int least = told.weightIn(firstOnes(a));
        for (int n = a + 1; n <= b; n++) {
            int weight = told.weightIn(firstOnes(n));
            if (weight <= least) {
                found = n;
                least = weight;
            }
        }
        return what == 0 ? found : least;
    }

    public int up(int r, int f, int what) {
        if (!book.hasRelease(r) || !told.hasFault(f)) {
            return UNKNOWN;
        }
        if (what < 0 || what > 1) {
            return OUTSIDE;
        }
        if (isFree(r, f)) {
            return NOT;
        }
        int found = NONE;
        int least = NONE;
        for (int q = r + 1; q < book.releases; q++) {
            if (leadsUp(r, q, f)) {
                int toll = told.riskOf(book.inRelease[r] ^ book.inRelease[q]);
                if (found == NONE || toll < least) {
                    found = q;
                    least = toll;
                }
            }
        }
        return what == 0 ? found : least;
    }

    public int spans(int f, int l, int i, int what) {
        if (!told.hasFault(f) || !book.hasLine(l)) {
            return UNKNOWN;
        }
        if (what < 0 || what > 1) {
            return OUTSIDE;
        }
        int begun = 0;
        boolean within = false;
        int found = NONE;
        for (int r = 0; r < book.releases; r++) {
            if (book.ofLine[r] != l) {
                continue;
            }
            boolean begins = !within && !isFree(r, f);
            within = !isFree(r, f);
            if (begins) {
                begun++;
            }
            if (within && begun - 1 == i && (begins || what == 1)) {
                found = r;
            }
        }
        return i == NONE ? begun : found;
    }

    public int lets(int l, int c, int day) {
        if (!book.hasLine(l) || !told.hasChange(c)) {
            return UNKNOWN;
        }
        if (!isDay(day)) {
            return OUTSIDE;
        }
        int first = picker.needsOf(l, c);
        if (first == NONE) {
            return NOT;
        }
        int all = first | 1 << c;
        int gone = told.faultsIn(book.inLine[l]) & told.removedBy(all);
        boolean open = !rules.isFrozen(day) && rules.allowsLine(l);
        return open && rules.allowsRisk(told.riskOf(all)) && rules.allowsWeight(told.weightOf(gone)) ? 1 : 0;
    }

    // ---- images

    public int keep(int i) {
        if (i < 0 || i >= IMAGES) {
            return UNKNOWN;
        }
        imageOf(i).become(book);
        keptImages |= 1 << i;
        return 1;
    }

    public int goBack(int i) {
        if (i < 0 || i >= IMAGES) {
            return UNKNOWN;
        }
        if (!has(keptImages, i)) {
            return NOT;
        }
        book.become(imageOf(i));
        return 1;
    }

    private Book imageOf(int i) {
        return i == 0 ? imageZero : imageOne;
    }

    private boolean isFree(int r, int f) {
        return !has(told.faultsIn(book.inRelease[r]), f);
    }

    private boolean leadsUp(int r, int q, int f) {
        int then = told.faultsIn(book.inRelease[r]);
        int now = told.faultsIn(book.inRelease[q]);
        return !has(now, f) && (now & ~then) == 0;
    }

    /** The first train of a line, from a day on, that can bear the fix of a fault; NONE without one. */
    private int trainWithFix(int l, int f, int day) {
        int gap = book.trainEvery[l];
        fixes.lookAt(l, 1 << f);
        if (gap < 1 || fixes.costOf(1 << f) == NONE) {
            return NONE;
        }
        int over = day % gap;
        return over == 0 ? day : day + gap - over;
    }

    private int refusalOfRow(int l, int set) {
        if (!book.hasLine(l) || !told.hasChanges(set)) {
            return UNKNOWN;
        }
        if ((book.inLine[l] & set) != 0 || Integer.bitCount(set) > MOST_IN_ORDER) {
            return NOT;
        }
        return 0;
    }

    private static boolean has(int set, int k) {
        return (set >> k & 1) != 0;
    }

    private static boolean isSlot(int s) {
        return s >= 0 && s < SLOTS;
    }

    private static boolean isDay(int day) {
        return day >= 0 && day <= LAST_DAY;
    }

    private static int firstOnes(int n) {
        return (1 << n) - 1;
    }

    /** The bytes that were fed and are not read yet. */
    private static final class Text {
        final int[] bytes = new int[MOST_BYTES];
        int length = 0;

        void append(int n, long packed) {
            for (int k = n - 1; k >= 0 && length < MOST_BYTES; k--) {
                bytes[length] = (int) (packed >>> 8 * k) & 255;
                length++;
            }
        }
    }

    /** Walks over a text, sign by sign, and remembers the first breach that it was told of. */
    private static final class Reader {
        static final int END = 0, WORD = 1, NUMBER = 2, OTHER = 3;

        private final Text text;
        private int mostFigures = 0;
        private int kind = END;
        private int start = 0;
        private int behind = 0;
        private int number = 0;
        int breach = 0;
        int breachAt = NONE;

        Reader(Text text) {
            this.text = text;
        }

        void begin(int figuresAllowed) {
            mostFigures = figuresAllowed;
            behind = 0;
            breach = 0;
            breachAt = NONE;
            step();
        }

        boolean atEnd() {
            return kind == END;
        }

        void step() {
            int length = text.length;
            int p = behind;
            while (p < length && text.bytes[p] == ' ') {
                p++;
            }
            start = p;
            kind = p < length ? kindOf(text.bytes[p]) : END;
            if (kind == OTHER) {
                p++;
            } else if (kind != END) {
                while (p < length && kindOf(text.bytes[p]) == kind) {
                    p++;
                }
            }
            behind = p;
        }

        private static int kindOf(int b) {
            if (b >= 'a' && b <= 'z') {
                return WORD;
            }
            return b >= '0' && b <= '9' ? NUMBER : OTHER;
        }

        boolean isWord(String word) {
            if (kind != WORD || behind - start != word.length()) {
                return false;
            }
            for (int k = 0; k < word.length(); k++) {
                if (text.bytes[start + k] != word.charAt(k)) {
                    return false;
                }
            }
            return true;
        }

        private boolean isSign(char sign) {
            return kind == OTHER && text.bytes[start] == sign;
        }

        boolean takeWord(String word) {
            if (!isWord(word)) {
                return false;
            }
            step();
            return true;
        }

        boolean takeSign(char sign) {
            if (!isSign(sign)) {
                return false;
            }
            step();
            return true;
        }

        boolean needWord(String word) {
            return takeWord(word) || refuse(CANNOT_STAND);
        }

        boolean needSign(char sign) {
            return takeSign(sign) || refuse(CANNOT_STAND);
        }

        /** A number within bounds; NONE if there is a breach. */
        int needNumber(int least, int most) {
            if (!fits(least, most)) {
                return NONE;
            }
            step();
            return number;
        }

        /** As needNumber, of numbers whose bit is not yet in a set. */
        int needNew(int least, int most, int already) {
            if (!fits(least, most)) {
                return NONE;
            }
            if (number < SLOTS && has(already, number)) {
                refuse(AGAIN);
                return NONE;
            }
            step();
            return number;
        }

        /** Leaves the number in its field; figures behind the third matter to none that is allowed. */
        private boolean fits(int least, int most) {
            if (kind != NUMBER) {
                return refuse(CANNOT_STAND);
            }
            number = 0;
            for (int p = start; p < behind && p < start + 3; p++) {
                number = 10 * number + text.bytes[p] - '0';
            }
            boolean within = behind - start <= mostFigures && number >= least && number <= most;
            return within || refuse(BAD_NUMBER);
        }

        /** Always false, so that what meets a breach can answer with it. */
        boolean refuse(int which) {
            breach = which;
            breachAt = start;
            return false;
        }
    }

    /** The changes and faults that a text tells. */
    private static final class Trunk {
        int changes = 0;
        final int[] setSlots = new int[MOST_CHANGES];
        final int[] readSlots = new int[MOST_CHANGES];
        final int[] risks = new int[MOST_CHANGES];
        final int[] settings = new int[MOST_CHANGES * SLOTS];
        /** Row c: the values on trunk ahead of change c; row 0 stays as it is made. */
        final int[] before = new int[(MOST_CHANGES + 1) * SLOTS];
        int faults = 0;
        final int[] weights = new int[MOST_FAULTS];
        final int[] bringers = new int[MOST_FAULTS];
        final int[] removers = new int[MOST_FAULTS];

        boolean hasChange(int c) {
            return c >= 0 && c < changes;
        }

        boolean hasChanges(int set) {
            return (set & ~firstOnes(changes)) == 0;
        }

        boolean hasFault(int f) {
            return f >= 0 && f < faults;
        }

        boolean hasFaults(int set) {
            return (set & ~firstOnes(faults)) == 0;
        }

        void become(Trunk other) {
            changes = other.changes;
            faults = other.faults;
            System.arraycopy(other.setSlots, 0, setSlots, 0, MOST_CHANGES);
            System.arraycopy(other.readSlots, 0, readSlots, 0, MOST_CHANGES);
            System.arraycopy(other.risks, 0, risks, 0, MOST_CHANGES);
            System.arraycopy(other.settings, 0, settings, 0, MOST_CHANGES * SLOTS);
            System.arraycopy(other.before, 0, before, 0, (MOST_CHANGES + 1) * SLOTS);
            System.arraycopy(other.weights, 0, weights, 0, MOST_FAULTS);
            System.arraycopy(other.bringers, 0, bringers, 0, MOST_FAULTS);
            System.arraycopy(other.removers, 0, removers, 0, MOST_FAULTS);
        }

        boolean readFrom(Reader in) {
            changes = 0;
            faults = 0;
            for (int clauses = 0; clauses < MOST_BYTES && !in.atEnd(); clauses++) {
                boolean whole;
                if (in.isWord("change")) {
                    whole = readChange(in);
                } else if (in.isWord("fault")) {
                    whole = readFault(in);
                } else {
                    whole = in.refuse(CANNOT_STAND);
                }
                if (!whole) {
                    return false;
                }
            }
            return true;
        }

        private boolean readChange(Reader in) {
            int c = changes;
            if (c >= MOST_CHANGES) {
                return in.refuse(TOO_MANY);
            }
            in.step();
            clearChange(c);
            if (in.takeWord("sets") && !readSettings(in, c)) {
                return false;
            }
            if (in.takeWord("reads") && !readReads(in, c)) {
                return false;
            }
            if (in.takeWord("risk")) {
                int risk = in.needNumber(0, 9);
                if (risk == NONE) {
                    return false;
                }
                risks[c] = risk;
            }
            if (!in.needSign(';')) {
                return false;
            }
            layBehind(c);
            changes = c + 1;
            return true;
        }

        private void clearChange(int c) {
            setSlots[c] = 0;
            readSlots[c] = 0;
            risks[c] = 0;
            for (int s = 0; s < SLOTS; s++) {
                settings[c * SLOTS + s] = 0;
            }
        }

        private boolean readSettings(Reader in, int c) {
            for (int k = 0; k <= SLOTS; k++) {
                int s = in.needNew(0, SLOTS - 1, setSlots[c]);
                if (s == NONE) {
                    return false;
                }
                int v = in.needNumber(1, 99);
                if (v == NONE) {
                    return false;
                }
                setSlots[c] |= 1 << s;
                settings[c * SLOTS + s] = v;
                if (!in.takeSign(',')) {
                    return true;
                }
            }
            return false;
        }

        private boolean readReads(Reader in, int c) {
            for (int k = 0; k <= SLOTS; k++) {
                int s = in.needNew(0, SLOTS - 1, readSlots[c]);
                if (s == NONE) {
                    return false;
                }
                readSlots[c] |= 1 << s;
                if (!in.takeSign(',')) {
                    return true;
                }
            }
            return false;
        }

        private void layBehind(int c) {
            System.arraycopy(before, c * SLOTS, before, (c + 1) * SLOTS, SLOTS);
            putOn(c, before, c + 1);
        }

        private boolean readFault(Reader in) {
            int f = faults;
            if (f >= MOST_FAULTS) {
                return in.refuse(TOO_MANY);
            }
            in.step();
            int weight = in.needNumber(1, 99);
            if (weight == NONE || !in.needWord("from")) {
                return false;
            }
            int from = in.needNumber(0, changes - 1);
            if (from == NONE) {
                return false;
            }
            int till = NONE;
            if (in.takeWord("till")) {
                till = in.needNumber(from + 1, changes - 1);
                if (till == NONE) {
                    return false;
                }
            }
            if (!in.needSign(';')) {
                return false;
            }
            weights[f] = weight;
            bringers[f] = from;
            removers[f] = till;
            faults = f + 1;
            return true;
        }

        int comingWith(int c) {
            int set = 0;
            for (int f = 0; f < faults; f++) {
                if (bringers[f] == c) {
                    set |= 1 << f;
                }
            }
            return set;
        }

        int goingWith(int c) {
            return removedBy(1 << c);
        }

        /** The faults that go with one of a set of changes. */
        int removedBy(int set) {
            int gone = 0;
            for (int f = 0; f < faults; f++) {
                if (removers[f] != NONE && has(set, removers[f])) {
                    gone |= 1 << f;
                }
            }
            return gone;
        }

        int faultsIn(int set) {
            int come = 0;
            for (int f = 0; f < faults; f++) {
                if (has(set, bringers[f])) {
                    come |= 1 << f;
                }
            }
            return come & ~removedBy(set);
        }

        int weightOf(int faultSet) {
            int weight = 0;
            for (int f = 0; f < faults; f++) {
                if (has(faultSet, f)) {
                    weight += weights[f];
                }
            }
            return weight;
        }

        int weightIn(int set) {
            return weightOf(faultsIn(set));
        }

        int riskOf(int set) {
            int risk = 0;
            for (int c = 0; c < changes; c++) {
                if (has(set, c)) {
                    risk += risks[c];
                }
            }
            return risk;
        }

        /** The slots by which a change does not go cleanly on the values of a row. */
        int clashOf(int c, int[] values, int row) {
            int touched = setSlots[c] | readSlots[c];
            int clashing = 0;
            for (int s = 0; s < SLOTS; s++) {
                if (has(touched, s) && values[row * SLOTS + s] != before[c * SLOTS + s]) {
                    clashing |= 1 << s;
                }
            }
            return clashing;
        }

        void putOn(int c, int[] values, int row) {
            for (int s = 0; s < SLOTS; s++) {
                if (has(setSlots[c], s)) {
                    values[row * SLOTS + s] = settings[c * SLOTS + s];
                }
            }
        }

        void takeOff(int c, int[] values, int row) {
            for (int s = 0; s < SLOTS; s++) {
                if (has(setSlots[c], s)) {
                    values[row * SLOTS + s] = before[c * SLOTS + s];
                }
            }
        }

        boolean stillSet(int c, int[] values, int row) {
            for (int s = 0; s < SLOTS; s++) {
                if (has(setSlots[c], s) && values[row * SLOTS + s] != settings[c * SLOTS + s]) {
                    return false;
                }
            }
            return true;
        }

        /** The last change ahead of another one that sets a slot; NONE without one. */
        int lastSetter(int c, int s) {
            for (int d = c - 1; d >= 0; d--) {
                if (has(setSlots[d], s)) {
                    return d;
                }
            }
            return NONE;
        }
    }

    /** What a policy's text tells: what was not told is NONE, and no line told is 0. */
    private static final class Rules {
        int clauses = 0;
        private int freezes = 0;
        private final int[] freezeFrom = new int[MOST_FREEZES];
        private final int[] freezeTill = new int[MOST_FREEZES];
        private int mostRisk = NONE;
        private int leastWeight = NONE;
        private int onlyLines = 0;

        void become(Rules other) {
            clauses = other.clauses;
            freezes = other.freezes;
            System.arraycopy(other.freezeFrom, 0, freezeFrom, 0, MOST_FREEZES);
            System.arraycopy(other.freezeTill, 0, freezeTill, 0, MOST_FREEZES);
            mostRisk = other.mostRisk;
            leastWeight = other.leastWeight;
            onlyLines = other.onlyLines;
        }

        boolean readFrom(Reader in) {
            clauses = 0;
            freezes = 0;
            mostRisk = NONE;
            leastWeight = NONE;
            onlyLines = 0;
            for (int k = 0; k < MOST_BYTES && !in.atEnd(); k++) {
                if (!readClause(in) || !in.needSign(';')) {
                    return false;
                }
                clauses++;
            }
            return true;
        }

        private boolean readClause(Reader in) {
            if (in.isWord("freeze")) {
                return freezes < MOST_FREEZES ? readFreeze(in) : in.refuse(TOO_MANY);
            }
            if (in.isWord("risk")) {
                return mostRisk == NONE ? readRisk(in) : in.refuse(TOO_MANY);
            }
            if (in.isWord("weigh")) {
                return leastWeight == NONE ? readWeight(in) : in.refuse(TOO_MANY);
            }
            if (in.isWord("only")) {
                return onlyLines == 0 ? readLines(in) : in.refuse(TOO_MANY);
            }
            return in.refuse(CANNOT_STAND);
        }

        private boolean readFreeze(Reader in) {
            in.step();
            int from = in.needNumber(0, LAST_DAY);
            if (from == NONE) {
                return false;
            }
            int till = in.needNumber(from, LAST_DAY);
            if (till == NONE) {
                return false;
            }
            freezeFrom[freezes] = from;
            freezeTill[freezes] = till;
            freezes++;
            return true;
        }

        private boolean readRisk(Reader in) {
            in.step();
            mostRisk = in.needNumber(0, 99);
            return mostRisk != NONE;
        }

        private boolean readWeight(Reader in) {
            in.step();
            leastWeight = in.needNumber(0, 99);
            return leastWeight != NONE;
        }

        private boolean readLines(Reader in) {
            in.step();
            for (int k = 0; k <= MOST_LINES; k++) {
                int l = in.needNew(0, MOST_LINES - 1, onlyLines);
                if (l == NONE) {
                    return false;
                }
                onlyLines |= 1 << l;
                if (!in.takeSign(',')) {
                    return true;
                }
            }
            return false;
        }

        boolean isFrozen(int day) {
            for (int k = 0; k < freezes; k++) {
                if (day >= freezeFrom[k] && day <= freezeTill[k]) {
                    return true;
                }
            }
            return false;
        }

        boolean allowsLine(int l) {
            return onlyLines == 0 || has(onlyLines, l);
        }

        boolean allowsRisk(int risk) {
            return mostRisk == NONE || risk <= mostRisk;
        }

        boolean allowsWeight(int weight) {
            return leastWeight == NONE || weight >= leastWeight;
        }
    }

    /** The lines and the releases: what an image keeps. */
    private static final class Book {
        int lines = 0;
        final int[] cutBehind = new int[MOST_LINES];
        final int[] inLine = new int[MOST_LINES];
        final int[] trainEvery = new int[MOST_LINES];
        final int[] lineValues = new int[MOST_LINES * SLOTS];
        int releases = 0;
        final int[] ofLine = new int[MOST_RELEASES];
        final int[] onDay = new int[MOST_RELEASES];
        final int[] inRelease = new int[MOST_RELEASES];
        final int[] releaseValues = new int[MOST_RELEASES * SLOTS];

        boolean hasLine(int l) {
            return l >= 0 && l < lines;
        }

        boolean hasRelease(int r) {
            return r >= 0 && r < releases;
        }

        void become(Book other) {
            lines = other.lines;
            System.arraycopy(other.cutBehind, 0, cutBehind, 0, MOST_LINES);
            System.arraycopy(other.inLine, 0, inLine, 0, MOST_LINES);
            System.arraycopy(other.trainEvery, 0, trainEvery, 0, MOST_LINES);
            System.arraycopy(other.lineValues, 0, lineValues, 0, MOST_LINES * SLOTS);
            releases = other.releases;
            System.arraycopy(other.ofLine, 0, ofLine, 0, MOST_RELEASES);
            System.arraycopy(other.onDay, 0, onDay, 0, MOST_RELEASES);
            System.arraycopy(other.inRelease, 0, inRelease, 0, MOST_RELEASES);
            System.arraycopy(other.releaseValues, 0, releaseValues, 0, MOST_RELEASES * SLOTS);
        }

        int addLine(int n, Trunk trunk) {
            int l = lines;
            cutBehind[l] = n;
            inLine[l] = firstOnes(n);
            trainEvery[l] = 0;
            System.arraycopy(trunk.before, n * SLOTS, lineValues, l * SLOTS, SLOTS);
            lines = l + 1;
            return l;
        }

        void putOn(int l, int c, Trunk trunk) {
            trunk.putOn(c, lineValues, l);
            inLine[l] |= 1 << c;
        }

        void takeOff(int l, int c, Trunk trunk) {
            trunk.takeOff(c, lineValues, l);
            inLine[l] &= ~(1 << c);
        }

        int lastDay() {
            return releases == 0 ? 0 : onDay[releases - 1];
        }

        int addRelease(int l, int day) {
            int r = releases;
            ofLine[r] = l;
            onDay[r] = day;
            inRelease[r] = inLine[l];
            System.arraycopy(lineValues, l * SLOTS, releaseValues, r * SLOTS, SLOTS);
            releases = r + 1;
            return r;
        }

        /** The next release of the same line; NONE without one. */
        int nextOfLine(int r) {
            for (int q = r + 1; q < releases; q++) {
                if (ofLine[q] == ofLine[r]) {
                    return q;
                }
            }
            return NONE;
        }
    }

    /** Tries changes on a line's values without touching the line. */
    private static final class Picker {
        private final Trunk trunk;
        private final Book book;
        private final int[] trial = new int[SLOTS];
        private final int[] otherTrial = new int[SLOTS];

        Picker(Trunk trunk, Book book) {
            this.trunk = trunk;
            this.book = book;
        }

        private void lay(int l, int[] values) {
            System.arraycopy(book.lineValues, l * SLOTS, values, 0, SLOTS);
        }

        private boolean goesOn(int c, int[] values) {
            if (trunk.clashOf(c, values, 0) != 0) {
                return false;
            }
            trunk.putOn(c, values, 0);
            return true;
        }

        /** Whether all of a set go on a line cleanly, in order of the trunk. */
        boolean allGoOn(int l, int set) {
            lay(l, trial);
            for (int c = 0; c < trunk.changes; c++) {
                if (has(set, c)) {
                    if (trunk.clashOf(c, trial, 0) != 0) {
                        return false;
                    }
                    trunk.putOn(c, trial, 0);
                }
            }
            return true;
        }

        /**
         * One way down the trunk gathers all needs, as what a change needs is always ahead of it.
         */
        int needsOf(int l, int c) {
            int inLine = book.inLine[l];
            if (has(inLine, c)) {
                return NONE;
            }
            int all = 1 << c;
            for (int d = c; d >= 0; d--) {
                if (has(all, d)) {
                    int more = settersOf(d, trunk.clashOf(d, book.lineValues, l));
                    if (more == NONE || (more & inLine) != 0) {
                        return NONE;
                    }
                    all |= more;
                }
            }
            return allGoOn(l, all) ? all & ~(1 << c) : NONE;
        }

        /** The last changes ahead of one that set the slots of a set; NONE if a slot has no such change. */
        private int settersOf(int c, int slots) {
            int setters = 0;
            for (int s = 0; s < SLOTS; s++) {
                if (has(slots, s)) {
                    int d = trunk.lastSetter(c, s);
                    if (d == NONE) {
                        return NONE;
                    }
                    setters |= 1 << d;
                }
            }
            return setters;
        }

        boolean areApart(int l, int c, int d) {
            lay(l, trial);
            lay(l, otherTrial);
            if (!goesOn(c, trial) || !goesOn(d, trial) || !goesOn(d, otherTrial) || !goesOn(c, otherTrial)) {
                return false;
            }
            for (int s = 0; s < SLOTS; s++) {
                if (trial[s] != otherTrial[s]) {
                    return false;
                }
            }
            return true;
        }

        int readyOn(int l) {
            int set = 0;
            for (int c = 0; c < trunk.changes; c++) {
                if (!has(book.inLine[l], c) && trunk.clashOf(c, book.lineValues, l) == 0) {
                    set |= 1 << c;
                }
            }
            return set;
        }

        int inReach(int l) {
            lay(l, trial);
            int come = 0;
            for (int k = 0; k < MOST_CHANGES; k++) {
                int c = leastReady(book.inLine[l] | come);
                if (c == NONE) {
                    return come;
                }
                trunk.putOn(c, trial, 0);
                come |= 1 << c;
            }
            return come;
        }

        private int leastReady(int inIt) {
            for (int c = 0; c < trunk.changes; c++) {
                if (!has(inIt, c) && trunk.clashOf(c, trial, 0) == 0) {
                    return c;
                }
            }
            return NONE;
        }
    }

    /** What it costs to take faults out of a line. */
    private static final class Fixes {
        private final Trunk trunk;
        private final Picker picker;
        private int ofLine = 0;
        /** For each fault the change with which it goes and the needs of that; NONE: it cannot go. */
        private final int[] fix = new int[MOST_FAULTS];
        private int fixable = 0;
        int bestFaults = 0;
        int bestWeight = 0;
        int bestCost = 0;

        Fixes(Trunk trunk, Picker picker) {
            this.trunk = trunk;
            this.picker = picker;
        }

        /** Has to come ahead of what is asked of a line, and of no other faults than these. */
        void lookAt(int l, int asked) {
            ofLine = l;
            fixable = 0;
            int inIt = trunk.faultsIn(picker.book.inLine[l]) & asked;
            for (int f = 0; f < trunk.faults; f++) {
                int c = trunk.removers[f];
                fix[f] = NONE;
                if (has(inIt, f) && c != NONE) {
                    int first = picker.needsOf(l, c);
                    fix[f] = first == NONE ? NONE : first | 1 << c;
                }
                if (fix[f] != NONE) {
                    fixable |= 1 << f;
                }
            }
        }

        private int allFixes(int faultSet) {
            int all = 0;
            for (int f = 0; f < trunk.faults; f++) {
                if (has(faultSet, f)) {
                    all |= fix[f];
                }
            }
            return all;
        }

        int costOf(int faultSet) {
            if ((faultSet & ~fixable) != 0) {
                return NONE;
            }
            int all = allFixes(faultSet);
            return picker.allGoOn(ofLine, all) ? all : NONE;
        }

        /** What is tried on the line is only what would be better than the best so far. */
        void findBest(int mostChanges, int mostRisk) {
            bestFaults = 0;
            bestWeight = 0;
            bestCost = 0;
            for (int set = 1; set <= firstOnes(trunk.faults); set++) {
                if ((set & ~fixable) == 0 && wouldBeBetter(set, mostChanges, mostRisk) && costOf(set) != NONE) {
                    bestFaults = set;
                    bestWeight = trunk.weightOf(set);
                    bestCost = allFixes(set);
                }
            }
        }

        private boolean wouldBeBetter(int set, int mostChanges, int mostRisk) {
            int weight = trunk.weightOf(set);
            if (weight < bestWeight) {
                return false;
            }
            int all = allFixes(set);
            int size = Integer.bitCount(all);
            if (weight == bestWeight && size >= Integer.bitCount(bestCost)) {
                return false;
            }
            return size <= mostChanges && trunk.riskOf(all) <= mostRisk;
        }
    }

    /**
     * The orders in which a set goes on a line. Whichever clean order some of them went on in, the
     * values behind them are the same: each slot's values make a trail over the same steps from the
     * same start, and so it ends in one place. So it is enough to look once at each part of the set.
     */
    private static final class Rows {
        private static final int PARTS = 1 << MOST_IN_ORDER;

        private final Trunk trunk;
        private final int[] members = new int[MOST_IN_ORDER];
        private int size = 0;
        private final boolean[] reached = new boolean[PARTS];
        /** The members that go on cleanly behind a part. */
        private final int[] next = new int[PARTS];
        /** How many ways lead from a part to the whole. */
        private final int[] ways = new int[PARTS];
        private final int[] values = new int[PARTS * SLOTS];

        Rows(Trunk trunk) {
            this.trunk = trunk;
        }

        /** For a set of 8 changes or fewer that are not in the line of the row. */
        void build(int set, int[] lineValues, int row) {
            size = 0;
            for (int c = 0; c < trunk.changes && size < MOST_IN_ORDER; c++) {
                if (has(set, c)) {
                    members[size] = c;
                    size++;
                }
            }
            int whole = firstOnes(size);
            for (int part = 0; part <= whole; part++) {
                reached[part] = false;
                next[part] = 0;
                ways[part] = 0;
            }
            reached[0] = true;
            System.arraycopy(lineValues, row * SLOTS, values, 0, SLOTS);
            for (int part = 0; part <= whole; part++) {
                if (reached[part]) {
                    goFurther(part);
                }
            }
            countWays(whole);
        }

        private void goFurther(int part) {
            for (int k = 0; k < size; k++) {
                if (!has(part, k) && trunk.clashOf(members[k], values, part) == 0) {
                    int more = part | 1 << k;
                    next[part] |= 1 << k;
                    if (!reached[more]) {
                        reached[more] = true;
                        System.arraycopy(values, part * SLOTS, values, more * SLOTS, SLOTS);
                        trunk.putOn(members[k], values, more);
                    }
                }
            }
        }

        private void countWays(int whole) {
            ways[whole] = 1;
            for (int part = whole - 1; part >= 0; part--) {
                for (int k = 0; k < size; k++) {
                    if (has(next[part], k)) {
                        ways[part] += ways[part | 1 << k];
                    }
                }
            }
        }

        int howMany() {
            return ways[0];
        }

        /** Change j of the i-th order; NONE if there is none such. */
        int memberOf(int i, int j) {
            if (i >= ways[0] || j < 0 || j >= size) {
                return NONE;
            }
            int part = 0;
            int k = 0;
            int left = i;
            for (int place = 0; place <= j; place++) {
                k = 0;
                while (k < size && left >= waysBy(part, k)) {
                    left -= waysBy(part, k);
                    k++;
                }
                if (k >= size) {
                    return NONE;
                }
                part |= 1 << k;
            }
            return members[k];
        }

        private int waysBy(int part, int k) {
            return has(next[part], k) ? ways[part | 1 << k] : 0;
        }
    }
}
