/**
 * The third part of the terms and promises 23 to 30 at their edges. What a test is about is the document's
 * sentence; beside what is just inside stands what is just outside.
 */
public final class ReleasesEdgesTest {
    private static final int NONE = CarriedBack.NONE;
    private static final int NOBODY = CarriedBack.NOBODY;
    private static final int NOT = CarriedBack.NOT;
    private static final int OUTSIDE = CarriedBack.OUTSIDE;
    private static final int UNKNOWN = CarriedBack.UNKNOWN;
    /** A line cut behind one has the fault; picking the other one frees it, undoing brings it again. */
    private static final String SWITCH = "change risk 1;change risk 2;fault 7 from 0 till 1;";

    private ReleasesEdgesTest() {
    }

    public static void main(String[] args) {
        twentyReleases();
        daysOfReleases();
        noneEarlier();
        whatARelease();
        notesFromOneToAnother();
        notesOfNoneAndAll();
        differsBySlot();
        freedInEachRow();
        freedOfOtherLines();
        dangerOnEachDay();
        dangerOfBounds();
        dangerOfLatestMade();
        dangerOfAllLines();
        everyOfALine();
        trainDays();
        soonestOfLines();
        soonestOfNone();
        Runs.close();
    }

    /** Releases of line l whose fault 0 is in those whose sign is 'N'; they are on days 0, step, 2 * step .. */
    static void row(CarriedBack x, int l, String signs, int step) {
        for (int k = 0; k < signs.length(); k++) {
            turn(x, l, signs.charAt(k) == 'N');
            x.release(l, k * step);
        }
    }

    /** Makes line l have fault 0 or be without it. */
    static void turn(CarriedBack x, int l, boolean has) {
        if ((x.line(l, 2) & 1) != 0 && !has) {
            x.pick(l, 1);
        } else if ((x.line(l, 2) & 1) == 0 && has) {
            x.undo(l, 1);
        }
    }

    /** All rows of F and N of some length. */
    static String signs(int length, int number) {
        StringBuilder b = new StringBuilder();
        for (int k = 0; k < length; k++) {
            b.append((number >> k & 1) == 0 ? 'F' : 'N');
        }
        return b.toString();
    }

    // ---- made

    private static void twentyReleases() {
        Runs.about("terms 3: RELEASES (20 at most). Promise 23: its number; FULL");
        CarriedBack x = Runs.of(SWITCH);
        for (int l = 0; l < 4; l++) {
            x.cut(l % 3);
        }
        for (int r = 0; r < 20; r++) {
            Runs.due("released(" + r + ", 0), not made yet", x.released(r, 0), UNKNOWN);
            Runs.due("release", x.release(r % 4, r), r);
            Runs.due("count(3)", x.count(3), r + 1);
        }
        Runs.due("release(0, 19), a 21st", x.release(0, 19), CarriedBack.FULL);
        Runs.due("release(0, 999), a 21st", x.release(0, 999), CarriedBack.FULL);
        Runs.due("release(0, 18), a 21st", x.release(0, 18), NOT);
        Runs.due("count(3)", x.count(3), 20);
        Runs.due("released(20, 0)", x.released(20, 0), UNKNOWN);
        for (int r = 0; r < 20; r++) {
            Runs.due("released(" + r + ", 0)", x.released(r, 0), r % 4);
            Runs.due("released(" + r + ", 1)", x.released(r, 1), r);
            Runs.due("released(" + r + ", 2)", x.released(r, 2), new int[] {0, 1, 3, 0}[r % 4]);
        }
        Runs.due("freed(0, 1)", x.freed(0, 1), NONE);
        Runs.due("danger(0, 19, 19)", x.danger(0, 19, 19), 1);
        Runs.due("danger(0, 0, 0)", x.danger(0, 0, 0), 0);
    }

    private static void daysOfReleases() {
        Runs.about("terms 3: on DAYS (0 .. 999)");
        for (int day : new int[] {-1, 0, 1, 998, 999, 1000}) {
            CarriedBack x = Runs.of(SWITCH);
            x.cut(1);
            boolean inside = day >= 0 && day <= 999;
            Runs.due("release(0, " + day + ")", x.release(0, day), inside ? 0 : OUTSIDE);
            Runs.due("count(3)", x.count(3), inside ? 1 : 0);
            Runs.due("released(0, 1)", x.released(0, 1), inside ? day : UNKNOWN);
        }
    }

    private static void noneEarlier() {
        Runs.about("terms 3: none earlier than the one ahead");
        CarriedBack x = Runs.of(SWITCH);
        x.cut(0);
        x.cut(1);
        Runs.due("release(0, 7)", x.release(0, 7), 0);
        Runs.due("release(1, 6), of another line", x.release(1, 6), NOT);
        Runs.due("release(0, 6)", x.release(0, 6), NOT);
        Runs.due("release(0, 0)", x.release(0, 0), NOT);
        Runs.due("release(1, 7): on the same day", x.release(1, 7), 1);
        Runs.due("release(0, 8)", x.release(0, 8), 2);
        Runs.due("release(1, 7)", x.release(1, 7), NOT);
        Runs.due("release(1, 999)", x.release(1, 999), 3);
        Runs.due("release(1, 998)", x.release(1, 998), NOT);
        Runs.due("release(1, 999)", x.release(1, 999), 4);
        Runs.about("promise 23: the last one is that which an image has");
        CarriedBack y = Runs.of(SWITCH);
        y.cut(0);
        y.keep(0);
        y.release(0, 5);
        y.keep(1);
        y.release(0, 9);
        y.goBack(1);
        Runs.due("release(0, 4)", y.release(0, 4), NOT);
        Runs.due("release(0, 5)", y.release(0, 5), 1);
        y.goBack(0);
        Runs.due("release(0, 0): none is ahead", y.release(0, 0), 0);
    }

    private static void whatARelease() {
        Runs.about("terms 3: each has the SET of CHANGES of its LINE and its values then");
        CarriedBack x = Runs.of("change sets 0 1,15 1;".repeat(12) + "change sets 0 2,15 3;fault 1 from 0 till 12;"
            + "fault 2 from 12;");
        x.cut(0);
        x.cut(13);
        x.release(0, 0);
        x.release(1, 999);
        int[][] want = {{0, 0, 0, 0}, {1, 999, 8191, 2}};
        for (int r = 0; r < 2; r++) {
            for (int what = 0; what <= 3; what++) {
                Runs.due("released(" + r + ", " + what + ")", x.released(r, what), want[r][what]);
            }
            Runs.due("released(" + r + ", 4)", x.released(r, 4), OUTSIDE);
            Runs.due("released(" + r + ", -1)", x.released(r, -1), OUTSIDE);
        }
        x.carry(0, 11);
        x.undo(1, 12);
        for (int what = 0; what <= 3; what++) {
            Runs.due("released(0, " + what + "), behind a pick", x.released(0, what), want[0][what]);
            Runs.due("released(1, " + what + "), behind an undo", x.released(1, what), want[1][what]);
        }
        Runs.due("differs(0, 1)", x.differs(0, 1), 0x8001);
    }

    // ---- two of them

    private static void notesFromOneToAnother() {
        Runs.about("terms 3: NOTES: CHANGES that came, that went; FAULTS that went, that came (SETS)");
        // each of the four pairs of sets on two changes, both ways
        String text = "change;change;fault 1 from 0;fault 1 from 1;fault 1 from 0 till 1;";
        int[] faults = {0, 5, 2, 3};
        for (int from = 0; from < 4; from++) {
            for (int to = 0; to < 4; to++) {
                CarriedBack x = Runs.of(text);
                x.cut(0);
                x.cut(0);
                for (int c = 0; c < 2; c++) {
                    if ((from >> c & 1) != 0) {
                        x.pick(0, c);
                    }
                    if ((to >> c & 1) != 0) {
                        x.pick(1, c);
                    }
                }
                x.release(0, 0);
                x.release(1, 0);
                String pair = " from " + from + " to " + to;
                Runs.due("notes, 0," + pair, x.notes(0, 1, 0), to & ~from);
                Runs.due("notes, 1," + pair, x.notes(0, 1, 1), from & ~to);
                Runs.due("notes, 2," + pair, x.notes(0, 1, 2), faults[from] & ~faults[to]);
                Runs.due("notes, 3," + pair, x.notes(0, 1, 3), faults[to] & ~faults[from]);
                Runs.due("notes back, 0," + pair, x.notes(1, 0, 0), from & ~to);
                Runs.due("notes back, 3," + pair, x.notes(1, 0, 3), faults[from] & ~faults[to]);
            }
        }
    }

    private static void notesOfNoneAndAll() {
        Runs.about("promise 25: none, and all; what 0 .. 3");
        CarriedBack x = Runs.of("change;".repeat(24) + "fault 1 from 23;".repeat(10));
        x.cut(0);
        x.cut(24);
        x.release(0, 0);
        x.release(1, 0);
        int[] up = {0xffffff, 0, 0, 1023};
        int[] down = {0, 0xffffff, 1023, 0};
        for (int what = 0; what <= 3; what++) {
            Runs.due("notes(0, 1, " + what + ")", x.notes(0, 1, what), up[what]);
            Runs.due("notes(1, 0, " + what + ")", x.notes(1, 0, what), down[what]);
            Runs.due("notes(1, 1, " + what + ")", x.notes(1, 1, what), 0);
            Runs.due("notes(0, 0, " + what + ")", x.notes(0, 0, what), 0);
        }
        Runs.due("notes(0, 1, 4)", x.notes(0, 1, 4), OUTSIDE);
        Runs.due("notes(0, 1, -1)", x.notes(0, 1, -1), OUTSIDE);
        Runs.due("notes(0, 2, 0)", x.notes(0, 2, 0), UNKNOWN);
    }

    private static void differsBySlot() {
        Runs.about("promise 26: SLOTS whose values are other in two RELEASES: each alone, none, all");
        for (int s = 0; s <= 15; s++) {
            CarriedBack x = Runs.of("change sets " + s + " 1;change sets " + s + " 99;change sets " + s + " 1;");
            for (int l = 0; l < 4; l++) {
                x.cut(l);
                x.release(l, 0);
            }
            for (int r = 0; r < 4; r++) {
                for (int q = 0; q < 4; q++) {
                    boolean same = r == q || r + q == 4;
                    Runs.due("differs(" + r + ", " + q + ") by " + s, x.differs(r, q), same ? 0 : 1 << s);
                }
            }
        }
        CarriedBack y = Runs.of("change sets 0 1,1 1,2 1,3 1,4 1,5 1,6 1,7 1,8 1,9 1,10 1,11 1,12 1,13 1,14 1,15 1;");
        y.cut(0);
        y.cut(1);
        y.release(0, 0);
        y.release(1, 0);
        Runs.due("differs(0, 1) by all", y.differs(0, 1), 0xffff);
        Runs.due("differs(1, 0) by all", y.differs(1, 0), 0xffff);
    }

    // ---- free, in danger

    private static void freedInEachRow() {
        Runs.about("terms 3: FREED: the first RELEASE of a LINE that is FREE, while an earlier one of it was not, and"
            + " no later one is not");
        for (int length = 0; length <= 6; length++) {
            for (int number = 0; number < 1 << length; number++) {
                String signs = signs(length, number);
                CarriedBack x = Runs.of(SWITCH);
                x.cut(1);
                row(x, 0, signs, 1);
                int last = signs.lastIndexOf('N');
                boolean freed = last >= 0 && last + 1 < length;
                Runs.due("freed(0, 0) of " + signs, x.freed(0, 0), freed ? last + 1 : NONE);
            }
        }
        CarriedBack y = Runs.of(SWITCH);
        y.cut(1);
        row(y, 0, "F".repeat(9) + "N".repeat(10) + "F", 1);
        Runs.due("freed(0, 0): the twentieth", y.freed(0, 0), 19);
    }

    private static void freedOfOtherLines() {
        Runs.about("terms 3: FREED: of a LINE alone");
        CarriedBack x = Runs.of(SWITCH);
        x.cut(1);
        x.cut(2);
        x.cut(1);
        x.release(0, 0);
        x.release(1, 0);
        Runs.due("freed(0, 0): another line's is free", x.freed(0, 0), NONE);
        Runs.due("freed(0, 1): another line's was not", x.freed(0, 1), NONE);
        x.pick(0, 1);
        x.release(0, 0);
        Runs.due("freed(0, 0)", x.freed(0, 0), 2);
        x.release(2, 1);
        Runs.due("freed(0, 0): another line's later one is not", x.freed(0, 0), 2);
        Runs.due("freed(0, 2)", x.freed(0, 2), NONE);
        Runs.due("freed(0, 3)", x.freed(0, 3), UNKNOWN);
        Runs.due("freed(1, 0)", x.freed(1, 0), UNKNOWN);
    }

    private static void dangerOnEachDay() {
        Runs.about("terms 3: IN DANGER from DAY a to b: on how many DAYS the newest RELEASE of a LINE (of that DAY or"
            + " earlier) was not FREE");
        String signs = "NFNNF";
        for (int step = 1; step <= 3; step++) {
            CarriedBack x = Runs.of(SWITCH);
            x.cut(1);
            row(x, 0, signs, step);
            for (int a = 0; a <= 4 * step + 1; a++) {
                int days = 0;
                for (int b = a; b <= 4 * step + 1; b++) {
                    days += signs.charAt(Math.min(b / step, 4)) == 'N' ? 1 : 0;
                    Runs.due("danger(0, " + a + ", " + b + ") by " + step, x.danger(0, a, b), days);
                }
            }
        }
        Runs.about("terms 3: IN DANGER: none ahead of the first RELEASE, on behind the last one");
        CarriedBack y = Runs.of(SWITCH);
        y.cut(1);
        y.release(0, 500);
        int[][] want = {{0, 499, 0}, {499, 499, 0}, {499, 500, 1}, {500, 500, 1}, {501, 501, 1}, {0, 999, 500},
            {999, 999, 1}, {500, 999, 500}, {0, 0, 0}};
        for (int[] w : want) {
            Runs.due("danger(0, " + w[0] + ", " + w[1] + ")", y.danger(0, w[0], w[1]), w[2]);
        }
    }

    private static void dangerOfBounds() {
        Runs.about("promise 28: OUTSIDE (DAYS, b below a)");
        CarriedBack x = Runs.of(SWITCH);
        x.cut(1);
        Runs.due("danger(0, 0, 999), no release", x.danger(0, 0, 999), 0);
        x.release(0, 0);
        Runs.due("danger(0, 0, 0)", x.danger(0, 0, 0), 1);
        Runs.due("danger(0, 0, 999)", x.danger(0, 0, 999), 1000);
        Runs.due("danger(0, 999, 999)", x.danger(0, 999, 999), 1);
        Runs.due("danger(0, 5, 5)", x.danger(0, 5, 5), 1);
        Runs.due("danger(0, 5, 4)", x.danger(0, 5, 4), OUTSIDE);
        Runs.due("danger(0, -1, 5)", x.danger(0, -1, 5), OUTSIDE);
        Runs.due("danger(0, 5, 1000)", x.danger(0, 5, 1000), OUTSIDE);
        Runs.due("danger(0, 1000, 999)", x.danger(0, 1000, 999), OUTSIDE);
        Runs.due("danger(1, 5, 5)", x.danger(1, 5, 5), UNKNOWN);
    }

    private static void dangerOfLatestMade() {
        Runs.about("terms 3: the newest RELEASE of a LINE (of that DAY or earlier; the latest made)");
        for (String signs : new String[] {"NF", "FN", "NNF", "NFN", "FFN", "FNF"}) {
            CarriedBack x = Runs.of(SWITCH);
            x.cut(1);
            row(x, 0, signs, 0);
            boolean has = signs.endsWith("N");
            Runs.due("danger(0, 0, 0), all on a day: " + signs, x.danger(0, 0, 0), has ? 1 : 0);
            Runs.due("danger(0, 0, 9), all on a day: " + signs, x.danger(0, 0, 9), has ? 10 : 0);
            turn(x, 0, !has);
            x.release(0, 4);
            Runs.due("danger(0, 0, 9), one behind " + signs, x.danger(0, 0, 9), has ? 4 : 6);
        }
    }

    private static void dangerOfAllLines() {
        Runs.about("terms 3: IN DANGER, all LINES together");
        CarriedBack x = Runs.of(SWITCH);
        for (int l = 0; l < 4; l++) {
            x.cut(1);
            x.release(l, 0);
            Runs.due("danger(0, 0, 999), lines: " + (l + 1), x.danger(0, 0, 999), 1000 * (l + 1));
            Runs.due("danger(0, 9, 9), lines: " + (l + 1), x.danger(0, 9, 9), l + 1);
        }
        x.pick(2, 1);
        x.release(2, 10);
        Runs.due("danger(0, 9, 9)", x.danger(0, 9, 9), 4);
        Runs.due("danger(0, 10, 10)", x.danger(0, 10, 10), 3);
        Runs.due("danger(0, 9, 11)", x.danger(0, 9, 11), 10);
    }

    // ---- trains

    private static void everyOfALine() {
        Runs.about("terms 3: EVERY (1 .. 99, for each LINE; 0 at first: none). Promise 29: v (0 .. 99): what it was");
        CarriedBack x = Runs.of(SWITCH);
        for (int l = 0; l < 4; l++) {
            x.cut(1);
            Runs.due("line(" + l + ", 4) at first", x.line(l, 4), 0);
        }
        int was = 0;
        for (int v = -1; v <= 101; v++) {
            boolean inside = v >= 0 && v <= 99;
            Runs.due("every(3, " + v + ")", x.every(3, v), inside ? was : OUTSIDE);
            was = inside ? v : was;
            Runs.due("line(3, 4)", x.line(3, 4), was);
        }
        Runs.due("line(2, 4): of another line", x.line(2, 4), 0);
        Runs.due("every(3, 0)", x.every(3, 0), 99);
        Runs.due("line(3, 4)", x.line(3, 4), 0);
        Runs.due("every(4, 0)", x.every(4, 0), UNKNOWN);
    }

    private static void trainDays() {
        Runs.about("terms 3: on DAYS that are left over by EVERY as 0: the first from d on (d itself too)");
        CarriedBack x = Runs.of(SWITCH);
        x.cut(1);
        for (int every : new int[] {1, 2, 7, 98, 99}) {
            x.every(0, every);
            for (int d : new int[] {0, 1, every - 1, every, every + 1, 5 * every - 1, 5 * every, 5 * every + 1}) {
                int day = d;
                while (day % every != 0) {
                    day++;
                }
                Runs.due("soonest(0, " + d + ") by " + every, x.soonest(0, d), day);
            }
        }
        int[][] last = {{1, 999, 999}, {1, 998, 998}, {99, 990, 990}, {99, 892, 990}, {37, 999, 999}, {37, 963, 999},
            {37, 962, 962}, {3, 997, 999}};
        for (int[] w : last) {
            x.every(0, w[0]);
            Runs.due("soonest(0, " + w[1] + ") by " + w[0], x.soonest(0, w[1]), w[2]);
        }
        // no NONE is told for a train that is due behind day 999
        x.every(0, 99);
        Runs.due("soonest(0, 991) by 99", x.soonest(0, 991), 1089);
        x.every(0, 7);
        Runs.due("soonest(0, 999) by 7", x.soonest(0, 999), 1001);
        Runs.due("soonest(0, 1000)", x.soonest(0, 1000), OUTSIDE);
        Runs.due("soonest(0, -1)", x.soonest(0, -1), OUTSIDE);
        Runs.due("soonest(1, 0)", x.soonest(1, 0), UNKNOWN);
    }

    private static void soonestOfLines() {
        Runs.about("terms 3: SOONEST: the greatest first TRAIN DAY of LINES that have it");
        CarriedBack x = Runs.of(SWITCH);
        for (int l = 0; l < 4; l++) {
            x.cut(1);
            x.every(l, new int[] {7, 30, 4, 99}[l]);
        }
        int[][] want = {{0, 0}, {1, 99}, {99, 120}, {100, 198}, {198, 210}};
        for (int[] w : want) {
            Runs.due("soonest(0, " + w[0] + ")", x.soonest(0, w[0]), w[1]);
        }
        x.pick(3, 1);
        Runs.due("soonest(0, 1): line 3 has it not", x.soonest(0, 1), 30);
        x.pick(1, 1);
        Runs.due("soonest(0, 1): lines 1, 3 have it not", x.soonest(0, 1), 7);
        x.pick(0, 1);
        Runs.due("soonest(0, 1): line 2 alone", x.soonest(0, 1), 4);
        x.every(0, 0);
        Runs.due("soonest(0, 1): no trains where it is not", x.soonest(0, 1), 4);
        Runs.due("line(2, 1): nothing is picked", x.line(2, 1), 1);
        x.pick(2, 1);
        Runs.due("soonest(0, 1): no line", x.soonest(0, 1), NOBODY);
    }

    private static void soonestOfNone() {
        Runs.about("terms 3: NONE: one has no TRAINS or no COST; -2: no LINE has it");
        CarriedBack x = Runs.of(SWITCH + "fault 9 from 0;");
        Runs.due("soonest(0, 0), no line", x.soonest(0, 0), NOBODY);
        x.cut(0);
        Runs.due("soonest(0, 0), an empty line", x.soonest(0, 0), NOBODY);
        x.cut(1);
        Runs.due("soonest(0, 0), no trains", x.soonest(0, 0), NONE);
        x.every(1, 1);
        Runs.due("soonest(0, 0)", x.soonest(0, 0), 0);
        Runs.due("soonest(1, 0), no 'till'", x.soonest(1, 0), NONE);
        x.cut(1);
        Runs.due("soonest(0, 0), one has no trains", x.soonest(0, 0), NONE);
        x.every(2, 1);
        x.every(1, 0);
        Runs.due("soonest(0, 0), the other one has none", x.soonest(0, 0), NONE);
        // the fix is IMPOSSIBLE on one line, and can be on the other one
        CarriedBack y = Runs.of("change;change reads 0;change sets 0 1;fault 1 from 0 till 1;");
        y.cut(1);
        y.cut(1);
        y.every(0, 5);
        y.every(1, 7);
        Runs.due("soonest(0, 1)", y.soonest(0, 1), 7);
        y.pick(0, 2);
        Runs.due("soonest(0, 1), no cost on line 0", y.soonest(0, 1), NONE);
        y.undo(0, 2);
        y.pick(1, 2);
        Runs.due("soonest(0, 1), no cost on line 1", y.soonest(0, 1), NONE);
        y.undo(1, 2);
        y.pick(1, 1);
        Runs.due("soonest(0, 1)", y.soonest(0, 1), 5);
    }
}
