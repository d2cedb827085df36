/**
 * Long runs of calls, the same each time, whose answers are held against those of the plain model.
 * An argument tells how many runs (and a second one with which number they begin).
 */
public final class RandomRunsTest {
    private static final int CALLS = 512;

    private long state;
    private final CarriedBack x = new CarriedBack();
    private final PlainModel model = new PlainModel();
    private int calls = 0;
    private int slots;
    private int values;
    private int changesTold = 0;
    private int faultsTold = 0;
    private int day = 0;

    private RandomRunsTest(int seed) {
        state = seed * 7919L + 17;
        slots = 1 + upTo(4);
        values = 1 + upTo(3);
    }

    public static void main(String[] args) {
        int runs = args.length > 0 ? Integer.parseInt(args[0]) : 400;
        int from = args.length > 1 ? Integer.parseInt(args[1]) : 0;
        for (int seed = from; seed < from + runs; seed++) {
            Runs.about("random run " + seed);
            new RandomRunsTest(seed).run();
        }
        Runs.close();
    }

    private int upTo(int n) {
        state = state * 6364136223846793005L + 1442695040888963407L;
        return (int) ((state >>> 33) % n);
    }

    private boolean chance(int in) {
        return upTo(in) == 0;
    }

    /** A number from 0 below n, now and then one that is out of bounds. */
    private int number(int n) {
        if (chance(60)) {
            int[] odd = {-1, n, n + 1, -2, Integer.MIN_VALUE, Integer.MAX_VALUE, 31, 32, 33, -31};
            return odd[upTo(odd.length)];
        }
        return upTo(Math.max(n, 1));
    }

    private void due(String call, int got, int want) {
        calls++;
        Runs.due("call " + calls + ", " + call, got, want);
    }

    private void run() {
        if (chance(4)) {
            due("policy()", x.policy(), model.policy());
        }
        tellTrunk();
        while (calls < CALLS - 70) {
            if (chance(200)) {
                tellTrunk();
            } else if (chance(40)) {
                tellPolicy();
            } else {
                oneCall();
            }
        }
    }

    // ---- texts

    private void feed(String text) {
        int from = 0;
        while (from < text.length()) {
            int n = chance(20) ? 1 + upTo(8) : 8;
            n = Math.min(n, text.length() - from);
            long packed = upTo(1 << 20);
            for (int k = 0; k < n; k++) {
                packed = packed << 8 | text.charAt(from + k) & 255;
            }
            due("feed(" + n + ", " + packed + ")", x.feed(n, packed), model.feed(n, packed));
            from += n;
        }
    }

    private String slotList(boolean withValues) {
        StringBuilder b = new StringBuilder();
        int first = upTo(slots);
        int some = 1 + upTo(Math.min(slots, 3));
        for (int k = 0; k < some; k++) {
            b.append(k == 0 ? "" : ",").append((first + k) % slots);
            if (withValues) {
                b.append(' ').append(1 + upTo(values));
            }
        }
        return b.toString();
    }

    private String trunkText() {
        StringBuilder b = new StringBuilder();
        int most = chance(3) ? 26 : 4 + upTo(12);
        int faults = chance(4) ? 11 : upTo(7);
        int dense = 1 + upTo(4);
        int told = 0;
        int toldFaults = 0;
        while (told < most && b.length() < 470) {
            b.append("change");
            if (upTo(dense) < 2) {
                b.append(" sets ").append(slotList(true));
            }
            if (chance(3)) {
                b.append(" reads ").append(slotList(false));
            }
            if (chance(2)) {
                b.append(" risk ").append(upTo(10));
            }
            b.append(';');
            told++;
            while (toldFaults < faults && told > 1 && chance(2) && b.length() < 470) {
                b.append("fault ").append(1 + upTo(chance(2) ? 4 : 99)).append(" from ");
                int from = upTo(told - 1);
                b.append(from);
                if (!chance(4)) {
                    b.append(" till ").append(from + 1 + upTo(told - from - 1));
                }
                b.append(';');
                toldFaults++;
            }
        }
        return b.toString();
    }

    /** One sign goes, comes, or becomes another one. */
    private String spoilt(String text) {
        String signs = "0123456789,; ;,09 achnge sets reads risk fault from tillfreezonlywA-\u00ff";
        StringBuilder b = new StringBuilder(text);
        if (b.length() == 0) {
            return text;
        }
        int at = upTo(b.length());
        char sign = signs.charAt(upTo(signs.length()));
        switch (upTo(4)) {
            case 0:
                b.deleteCharAt(at);
                break;
            case 1:
                b.insert(at, sign);
                break;
            case 2:
                b.setLength(at);
                break;
            default:
                b.setCharAt(at, sign);
                break;
        }
        return b.toString();
    }

    private void tellTrunk() {
        String text = trunkText();
        boolean bad = chance(5);
        feed(bad ? spoilt(text) : text);
        due("trunk() of " + text, x.trunk(), model.trunk());
        due("breach()", x.breach(), model.breach());
        changesTold = model.count(0);
        faultsTold = model.count(1);
        day = 0;
        if (bad) {
            return;
        }
        for (int k = 0; k < 4; k++) {
            int n = upTo(changesTold + 1);
            due("cut(" + n + ")", x.cut(n), model.cut(n));
        }
    }

    private String policyText() {
        StringBuilder b = new StringBuilder();
        int clauses = chance(8) ? 10 : upTo(5);
        for (int k = 0; k < clauses; k++) {
            switch (clauses == 10 && !chance(20) ? 0 : upTo(4)) {
                case 0:
                    int from = upTo(clauses == 10 ? 10 : 900);
                    b.append("freeze ").append(from).append(' ').append(Math.min(from + upTo(200) - 1, 1000));
                    break;
                case 1:
                    b.append("risk ").append(upTo(40));
                    break;
                case 2:
                    b.append("weigh ").append(upTo(20));
                    break;
                default:
                    b.append("only ").append(upTo(4)).append(",").append(upTo(4));
                    break;
            }
            b.append(';');
        }
        return b.toString().replace("-1", "0");
    }

    private void tellPolicy() {
        String text = policyText();
        feed(chance(4) ? spoilt(text) : text);
        due("policy() of " + text, x.policy(), model.policy());
        due("breach()", x.breach(), model.breach());
        if (model.count(4) > 0) {
            due("trunk()", x.trunk(), model.trunk());
        }
    }

    // ---- calls

    private void oneCall() {
        int l = number(4);
        int c = number(changesTold);
        int s = number(16);
        int f = number(faultsTold);
        int r = number(model.count(3));
        switch (upTo(50)) {
            case 0, 1, 2, 3, 4, 5 -> due("pick(" + l + ", " + c + ")", x.pick(l, c), model.pick(l, c));
            case 6, 7, 8, 9 -> due("undo(" + l + ", " + c + ")", x.undo(l, c), model.undo(l, c));
            case 10, 11 -> due("carry(" + l + ", " + c + ")", x.carry(l, c), model.carry(l, c));
            case 12, 13, 14 -> due("needs(" + l + ", " + c + ")", x.needs(l, c), model.needs(l, c));
            case 15, 16, 17 -> newRelease(l);
            case 18 -> due("clash(" + l + ", " + c + ")", x.clash(l, c), model.clash(l, c));
            case 19 -> due("value(" + l + ", " + s + ")", x.value(l, s), model.value(l, s));
            case 20 -> due("sets(" + c + ", " + s + ")", x.sets(c, s), model.sets(c, s));
            case 21 -> ahead(number(changesTold + 1), number(slots));
            case 22 -> lookAtChange(c, number(5));
            case 23 -> lookAtFault(f, number(3));
            case 24 -> lookAtLine(l, number(5));
            case 25, 26 -> apart(l, c, number(changesTold));
            case 27, 28 -> cost(l, number(1 << faultsTold));
            case 29 -> best(l, number(chance(2) ? 25 : 4), number(chance(2) ? 100 : 12), number(3));
            case 30 -> later(l, number(25));
            case 31 -> lookAtRelease(r, number(4));
            case 32 -> notes(r, number(model.count(3)), number(4));
            case 33 -> due("freed(" + f + ", " + l + ")", x.freed(f, l), model.freed(f, l));
            case 34, 35 -> danger(f, number(chance(2) ? 1000 : 60), number(chance(2) ? 1000 : 60));
            case 36 -> every(l, number(chance(2) ? 100 : 9));
            case 37, 38 -> soonest(f, number(900));
            case 39 -> ready(l, chance(2));
            case 40, 41 -> orders(l);
            case 42 -> whence(l, number(slots));
            case 43 -> due("strayed(" + l + ")", x.strayed(l), model.strayed(l));
            case 44 -> bestCut(number(changesTold + 1), number(changesTold + 1), number(2));
            case 45, 46 -> up(r, f, number(2));
            case 47 -> spans(f, l, number(4) - 1, number(2));
            case 48 -> lets(l, c, number(1000));
            default -> images();
        }
    }

    private void whence(int l, int s) {
        due("whence(" + l + ", " + s + ")", x.whence(l, s), model.whence(l, s));
    }

    private void newRelease(int l) {
        int on = chance(30) ? number(1000) : day + upTo(9);
        due("release(" + l + ", " + on + ")", x.release(l, on), model.release(l, on));
        int made = model.count(3);
        day = made == 0 ? 0 : model.released(made - 1, 1);
        if (chance(3)) {
            due("differs", x.differs(made - 1, made - 2), model.differs(made - 1, made - 2));
        }
    }

    private void ahead(int c, int s) {
        due("ahead(" + c + ", " + s + ")", x.ahead(c, s), model.ahead(c, s));
    }

    private void lookAtChange(int c, int what) {
        due("change(" + c + ", " + what + ")", x.change(c, what), model.change(c, what));
    }

    private void lookAtFault(int f, int what) {
        due("fault(" + f + ", " + what + ")", x.fault(f, what), model.fault(f, what));
        due("count(" + what + ")", x.count(what), model.count(what));
    }

    private void lookAtLine(int l, int what) {
        due("line(" + l + ", " + what + ")", x.line(l, what), model.line(l, what));
    }

    private void apart(int l, int c, int d) {
        due("apart(" + l + ", " + c + ", " + d + ")", x.apart(l, c, d), model.apart(l, c, d));
    }

    private void cost(int l, int set) {
        due("cost(" + l + ", " + set + ")", x.cost(l, set), model.cost(l, set));
    }

    private void best(int l, int n, int r, int what) {
        due("best(" + l + ", " + n + ", " + r + ", " + what + ")", x.best(l, n, r, what), model.best(l, n, r, what));
    }

    private void later(int l, int n) {
        due("later(" + l + ", " + n + ")", x.later(l, n), model.later(l, n));
    }

    private void lookAtRelease(int r, int what) {
        due("released(" + r + ", " + what + ")", x.released(r, what), model.released(r, what));
    }

    private void notes(int r, int q, int what) {
        due("notes(" + r + ", " + q + ", " + what + ")", x.notes(r, q, what), model.notes(r, q, what));
        due("differs(" + r + ", " + q + ")", x.differs(r, q), model.differs(r, q));
    }

    private void danger(int f, int a, int b) {
        int from = chance(10) ? a : Math.min(a, b);
        int till = chance(10) ? b : Math.max(a, b);
        due("danger(" + f + ", " + from + ", " + till + ")", x.danger(f, from, till), model.danger(f, from, till));
    }

    private void every(int l, int v) {
        due("every(" + l + ", " + v + ")", x.every(l, v), model.every(l, v));
    }

    private void soonest(int f, int d) {
        due("soonest(" + f + ", " + d + ")", x.soonest(f, d), model.soonest(f, d));
    }

    private void ready(int l, boolean far) {
        due("ready(" + l + ", " + far + ")", x.ready(l, far), model.ready(l, far));
    }

    private void orders(int l) {
        int most = chance(40) ? 10 : 5;
        int set = 0;
        int open = chance(10) ? -1 : ~Math.max(model.line(l, 1), 0);
        for (int k = 0; k < most; k++) {
            set |= 1 << number(changesTold) & open;
        }
        due("orders(" + l + ", " + set + ")", x.orders(l, set), model.orders(l, set));
        int i = number(Math.max(model.orders(l, set) + 1, 1));
        int j = number(Math.max(1, Integer.bitCount(set)));
        due("order(" + l + ", " + set + ", " + i + ", " + j + ")", x.order(l, set, i, j), model.order(l, set, i, j));
    }

    private void bestCut(int a, int b, int what) {
        due("bestCut(" + a + ", " + b + ", " + what + ")", x.bestCut(a, b, what), model.bestCut(a, b, what));
    }

    private void up(int r, int f, int what) {
        due("up(" + r + ", " + f + ", " + what + ")", x.up(r, f, what), model.up(r, f, what));
    }

    private void spans(int f, int l, int i, int what) {
        due("spans(" + f + ", " + l + ", " + i + ", " + what + ")", x.spans(f, l, i, what),
            model.spans(f, l, i, what));
    }

    private void lets(int l, int c, int on) {
        due("lets(" + l + ", " + c + ", " + on + ")", x.lets(l, c, on), model.lets(l, c, on));
    }

    private void images() {
        int i = number(2);
        if (chance(2)) {
            due("keep(" + i + ")", x.keep(i), model.keep(i));
        } else {
            due("goBack(" + i + ")", x.goBack(i), model.goBack(i));
        }
        int made = model.count(3);
        day = made == 0 ? 0 : model.released(made - 1, 1);
    }
}
