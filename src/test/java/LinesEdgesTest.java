/**
 * The second part of the terms and promises 11 to 22 at their edges. What a test is about is the document's
 * sentence; beside what is just inside stands what is just outside.
 */
public final class LinesEdgesTest {
    private static final int NONE = CarriedBack.NONE;
    private static final int NOT = CarriedBack.NOT;
    private static final int OUTSIDE = CarriedBack.OUTSIDE;
    private static final int UNKNOWN = CarriedBack.UNKNOWN;
    private static final int ALL = 0xffffff;

    private LinesEdgesTest() {
    }

    public static void main(String[] args) {
        fourLines();
        firstOnesAreInIt();
        whatALineTells();
        valuesOfSixteenSlots();
        cleanlyByEachSlot();
        cleanlyByNone();
        pickingAll();
        notPickedTwice();
        undoingByEachSlot();
        undoingByNone();
        undoingAll();
        needsOfNone();
        needsOfAll();
        needsOfOtherValuesAlone();
        impossibleInIt();
        impossibleForOneInIt();
        impossibleForOneThatWouldGoOn();
        impossibleForNone();
        impossibleTogether();
        possibleTogether();
        carryingOneAndAll();
        apartInEitherOrder();
        faultsInASet();
        costOfNoneAndAll();
        costOfEachThatCannotGo();
        costTogether();
        bestWithinPicks();
        bestWithinRisk();
        bestOfLikeOnes();
        bestOfNone();
        laterByNoneAndAll();
        laterAsItIs();
        Runs.close();
    }

    /** 24 changes, each sets slot 0 to one more than the one ahead. */
    static String chain() {
        StringBuilder text = new StringBuilder();
        for (int v = 1; v <= 24; v++) {
            text.append("change sets 0 ").append(v).append(';');
        }
        return text.toString();
    }

    private static String allSlots(int value) {
        StringBuilder text = new StringBuilder("change sets ");
        for (int s = 0; s <= 15; s++) {
            text.append(s == 0 ? "" : ",").append(s).append(' ').append(value);
        }
        return text.append(';').toString();
    }

    // ---- lines

    private static void fourLines() {
        Runs.about("terms 2: LINES (4 at most). Promise 11: its number. OUTSIDE, FULL");
        CarriedBack x = Runs.of(chain());
        int[] behind = {0, 1, 23, 24};
        Runs.due("cut(25)", x.cut(25), OUTSIDE);
        Runs.due("cut(-1)", x.cut(-1), OUTSIDE);
        for (int l = 0; l < 4; l++) {
            Runs.due("count(2)", x.count(2), l);
            Runs.due("line(" + l + ", 0), not cut yet", x.line(l, 0), UNKNOWN);
            Runs.due("cut(" + behind[l] + ")", x.cut(behind[l]), l);
        }
        Runs.due("cut(0), a fifth", x.cut(0), CarriedBack.FULL);
        Runs.due("cut(25), a fifth", x.cut(25), OUTSIDE);
        Runs.due("count(2)", x.count(2), 4);
        for (int l = 0; l < 4; l++) {
            Runs.due("line(" + l + ", 0)", x.line(l, 0), behind[l]);
        }
        Runs.due("line(4, 0)", x.line(4, 0), UNKNOWN);
        CarriedBack y = new CarriedBack();
        Runs.due("cut(1) of an empty trunk", y.cut(1), OUTSIDE);
        for (int l = 0; l < 4; l++) {
            Runs.due("cut(0) of an empty trunk", y.cut(0), l);
        }
        Runs.due("cut(0) of an empty trunk, a fifth", y.cut(0), CarriedBack.FULL);
        Runs.due("cut(1) of an empty trunk, a fifth", y.cut(1), OUTSIDE);
    }

    private static void firstOnesAreInIt() {
        Runs.about("terms 2: cut behind so many CHANGES of THE TRUNK (its first ones are in it)");
        for (int from = 0; from <= 24; from += 4) {
            CarriedBack x = Runs.of(chain());
            for (int l = 0; l < 4 && from + l <= 24; l++) {
                int n = from + l;
                Runs.due("cut(" + n + ")", x.cut(n), l);
                Runs.due("line, 0, behind " + n, x.line(l, 0), n);
                Runs.due("line, 1, behind " + n, x.line(l, 1), (1 << n) - 1);
                Runs.due("value, 0, behind " + n, x.value(l, 0), n);
                Runs.due("value, 1, behind " + n, x.value(l, 1), 0);
                Runs.due("whence, 0, behind " + n, x.whence(l, 0), n - 1);
                Runs.due("strayed, behind " + n, x.strayed(l), 0);
                Runs.due("clash of the next, behind " + n, x.clash(l, n), n < 24 ? 0 : UNKNOWN);
            }
        }
    }

    private static void whatALineTells() {
        Runs.about("promise 12: where it was cut, CHANGES, FAULTS, RISKS together, EVERY: none and all");
        CarriedBack x = Runs.of("change risk 9;".repeat(24) + "fault 9 from 0;".repeat(10));
        x.cut(0);
        x.cut(24);
        x.every(1, 99);
        int[][] want = {{0, 0, 0, 0, 0}, {24, ALL, 1023, 216, 99}};
        for (int l = 0; l < 2; l++) {
            for (int what = 0; what <= 4; what++) {
                Runs.due("line(" + l + ", " + what + ")", x.line(l, what), want[l][what]);
            }
            Runs.due("line(" + l + ", 5)", x.line(l, 5), OUTSIDE);
            Runs.due("line(" + l + ", -1)", x.line(l, -1), OUTSIDE);
        }
        x.pick(0, 23);
        x.undo(1, 0);
        Runs.due("line(0, 0) stays", x.line(0, 0), 0);
        Runs.due("line(0, 1)", x.line(0, 1), 1 << 23);
        Runs.due("line(0, 3)", x.line(0, 3), 9);
        Runs.due("line(1, 0) stays", x.line(1, 0), 24);
        Runs.due("line(1, 2)", x.line(1, 2), 0);
        Runs.due("line(1, 3)", x.line(1, 3), 207);
    }

    private static void valuesOfSixteenSlots() {
        Runs.about("promise 13: What a SLOT of a LINE has: the first and the last of each line");
        CarriedBack x = Runs.of(allSlots(1) + allSlots(2) + allSlots(99));
        for (int l = 0; l < 4; l++) {
            x.cut(l);
        }
        int[] values = {0, 1, 2, 99};
        for (int l = 0; l < 4; l++) {
            for (int s = 0; s <= 15; s++) {
                Runs.due("value(" + l + ", " + s + ")", x.value(l, s), values[l]);
            }
            Runs.due("value(" + l + ", 16)", x.value(l, 16), UNKNOWN);
            Runs.due("value(" + l + ", -1)", x.value(l, -1), UNKNOWN);
        }
        Runs.due("pick(1, 1): one line alone", x.pick(1, 1), 2);
        int[] then = {0, 2, 2, 99};
        for (int l = 0; l < 4; l++) {
            Runs.due("value(" + l + ", 0)", x.value(l, 0), then[l]);
            Runs.due("value(" + l + ", 15)", x.value(l, 15), then[l]);
        }
    }

    // ---- cleanly

    private static void cleanlyByEachSlot() {
        Runs.about("terms 2: CLEANLY, if each SLOT that it TOUCHES has there the value that it has ON TRUNK ahead of"
            + " it");
        for (int s = 0; s <= 15; s++) {
            for (String touching : new String[] {"sets " + s + " 9", "reads " + s, "sets " + s + " 9 reads " + s}) {
                CarriedBack x = Runs.of("change sets " + s + " 1;change " + touching + ";");
                x.cut(0);
                Runs.due("clash(0, 1), " + touching, x.clash(0, 1), 1 << s);
                Runs.due("pick(0, 1), " + touching, x.pick(0, 1), NOT);
                Runs.due("line(0, 1)", x.line(0, 1), 0);
                Runs.due("pick(0, 0)", x.pick(0, 0), 1);
                Runs.due("clash(0, 1), " + touching, x.clash(0, 1), 0);
                Runs.due("pick(0, 1), " + touching, x.pick(0, 1), 2);
                Runs.due("value(0, " + s + ")", x.value(0, s), touching.startsWith("sets") ? 9 : 1);
            }
            // of sixteen that it touches one alone has another value
            CarriedBack y = Runs.of("change sets " + s + " 1;" + allSlots(2));
            y.cut(0);
            Runs.due("clash(0, 1) of all slots", y.clash(0, 1), 1 << s);
            Runs.due("pick(0, 1) of all slots", y.pick(0, 1), NOT);
            Runs.due("value(0, 0)", y.value(0, 0), 0);
            Runs.due("value(0, 15)", y.value(0, 15), 0);
            y.pick(0, 0);
            Runs.due("pick(0, 1) of all slots", y.pick(0, 1), 2);
        }
        CarriedBack z = Runs.of(allSlots(1) + allSlots(2));
        z.cut(0);
        Runs.due("clash(0, 1) by all slots", z.clash(0, 1), 0xffff);
    }

    private static void cleanlyByNone() {
        Runs.about("terms 2: one that TOUCHES no SLOT goes on CLEANLY; promise 14: 0: it does");
        CarriedBack x = Runs.of(chain().substring(0, 32) + "change;change risk 9;");
        x.cut(0);
        x.cut(2);
        for (int l = 0; l < 2; l++) {
            for (int c = 2; c < 4; c++) {
                Runs.due("clash(" + l + ", " + c + ")", x.clash(l, c), 0);
                Runs.due("needs(" + l + ", " + c + ")", x.needs(l, c), 0);
            }
        }
        Runs.about("terms 2: the value that counts, not which CHANGE set it");
        CarriedBack y = Runs.of("change sets 0 1;change sets 0 2;change sets 0 1;change reads 0;");
        y.cut(1);
        Runs.due("clash(0, 3)", y.clash(0, 3), 0);
        Runs.due("pick(0, 3)", y.pick(0, 3), 2);
    }

    private static void pickingAll() {
        Runs.about("promise 15: how many are in the LINE, up to all");
        CarriedBack x = Runs.of(chain());
        x.cut(0);
        for (int c = 0; c < 24; c++) {
            Runs.due("pick(0, " + (c + 1) + "), one ahead is not in it", x.pick(0, c + 1), c < 23 ? NOT : UNKNOWN);
            Runs.due("pick(0, " + c + ")", x.pick(0, c), c + 1);
            Runs.due("value(0, 0)", x.value(0, 0), c + 1);
        }
        Runs.due("line(0, 1)", x.line(0, 1), ALL);
        Runs.due("ready(0, true)", x.ready(0, true), 0);
        Runs.due("pick(0, 23)", x.pick(0, 23), NOT);
        Runs.due("pick(0, 24)", x.pick(0, 24), UNKNOWN);
    }

    private static void notPickedTwice() {
        Runs.about("promises 14, 15, 18: NOT: it is in it, though it would go on CLEANLY");
        CarriedBack x = Runs.of("change;change sets 0 1;change sets 0 2;change sets 0 1;change sets 0 2;");
        x.cut(1);
        Runs.due("clash(0, 0)", x.clash(0, 0), NOT);
        Runs.due("pick(0, 0)", x.pick(0, 0), NOT);
        Runs.due("carry(0, 0)", x.carry(0, 0), NOT);
        Runs.due("pick(0, 1)", x.pick(0, 1), 2);
        Runs.due("pick(0, 2)", x.pick(0, 2), 3);
        Runs.due("pick(0, 3)", x.pick(0, 3), 4);
        // slot 0 has the value now that it has ahead of change 2
        Runs.due("clash(0, 2)", x.clash(0, 2), NOT);
        Runs.due("pick(0, 2)", x.pick(0, 2), NOT);
        Runs.due("carry(0, 2)", x.carry(0, 2), NOT);
        Runs.due("value(0, 0)", x.value(0, 0), 1);
        Runs.due("pick(0, 4)", x.pick(0, 4), 5);
    }

    // ---- undone

    private static void undoingByEachSlot() {
        Runs.about("terms 2: UNDOING, if each SLOT that it sets still has its value there");
        for (int s = 0; s <= 15; s++) {
            CarriedBack x = Runs.of(allSlots(1) + allSlots(2) + "change sets " + s + " 3;");
            x.cut(3);
            Runs.due("undo(0, 1), slot " + s + " has another", x.undo(0, 1), NOT);
            Runs.due("value(0, 0)", x.value(0, 0), s == 0 ? 3 : 2);
            Runs.due("line(0, 1)", x.line(0, 1), 7);
            Runs.due("undo(0, 2)", x.undo(0, 2), 2);
            Runs.due("undo(0, 1)", x.undo(0, 1), 1);
            Runs.due("value(0, 0)", x.value(0, 0), 1);
            Runs.due("value(0, 15)", x.value(0, 15), 1);
            Runs.due("undo(0, 0)", x.undo(0, 0), 0);
            Runs.due("value(0, " + s + ")", x.value(0, s), 0);
        }
        Runs.about("terms 2: these get what they have ON TRUNK ahead of it, not what they had on the line");
        CarriedBack y = Runs.of("change sets 0 5;change sets 1 6;change sets 0 7,1 8;");
        y.cut(3);
        Runs.due("undo(0, 2)", y.undo(0, 2), 2);
        Runs.due("value(0, 0)", y.value(0, 0), 5);
        Runs.due("value(0, 1)", y.value(0, 1), 6);
        CarriedBack z = Runs.of("change sets 0 5;change sets 0 6;change sets 0 5;change sets 0 7;");
        z.cut(1);
        z.pick(0, 3);
        Runs.due("undo(0, 3)", z.undo(0, 3), 1);
        Runs.due("value(0, 0)", z.value(0, 0), 5);
        z.pick(0, 1);
        z.pick(0, 2);
        Runs.due("undo(0, 2)", z.undo(0, 2), 2);
        Runs.due("value(0, 0): as ahead of it on trunk", z.value(0, 0), 6);
    }

    private static void undoingByNone() {
        Runs.about("terms 2: one that sets no SLOT can be UNDONE, whatever it reads");
        CarriedBack x = Runs.of("change sets 0 1;change reads 0;change sets 0 2;change;");
        x.cut(4);
        Runs.due("undo(0, 1)", x.undo(0, 1), 3);
        Runs.due("undo(0, 3)", x.undo(0, 3), 2);
        Runs.due("value(0, 0)", x.value(0, 0), 2);
        Runs.due("undo(0, 3): not in it any more", x.undo(0, 3), NOT);
        Runs.due("pick(0, 3)", x.pick(0, 3), 3);
        Runs.about("promise 16: NOT: it is not in it, though its values are there");
        CarriedBack y = Runs.of("change sets 0 1;change sets 0 2;change sets 0 1;");
        y.cut(1);
        Runs.due("undo(0, 2)", y.undo(0, 2), NOT);
        Runs.due("value(0, 0)", y.value(0, 0), 1);
        Runs.due("undo(0, 0)", y.undo(0, 0), 0);
    }

    private static void undoingAll() {
        Runs.about("promise 16: how many are in the LINE, down to none");
        CarriedBack x = Runs.of(chain());
        x.cut(24);
        for (int c = 23; c >= 0; c--) {
            Runs.due("undo(0, " + (c - 1) + "), one behind it is in it", x.undo(0, c - 1), c > 0 ? NOT : UNKNOWN);
            Runs.due("undo(0, " + c + ")", x.undo(0, c), c);
            Runs.due("value(0, 0)", x.value(0, 0), c);
        }
        Runs.due("line(0, 1)", x.line(0, 1), 0);
        Runs.due("line(0, 0)", x.line(0, 0), 24);
        Runs.due("undo(0, 0)", x.undo(0, 0), NOT);
        Runs.due("carry(0, 23)", x.carry(0, 23), 24);
    }

    // ---- needs

    private static void needsOfNone() {
        Runs.about("promise 17: NEEDS, none of what goes on CLEANLY");
        CarriedBack x = Runs.of(chain());
        x.cut(0);
        x.cut(23);
        Runs.due("needs(0, 0)", x.needs(0, 0), 0);
        Runs.due("needs(1, 23)", x.needs(1, 23), 0);
    }

    private static void needsOfAll() {
        Runs.about("terms 2: the last CHANGE ahead of it that sets it, with that one's NEEDS, and so on");
        CarriedBack x = Runs.of(chain());
        x.cut(0);
        x.cut(7);
        for (int c = 0; c < 24; c++) {
            Runs.due("needs(0, " + c + ")", x.needs(0, c), (1 << c) - 1);
            int first = (1 << 7) - 1;
            Runs.due("needs(1, " + c + ")", x.needs(1, c), c < 7 ? NONE : (1 << c) - 1 & ~first);
        }
        // by what it sets, by what it reads, by two ways
        CarriedBack y = Runs.of("change sets 0 1;change sets 1 1;change sets 2 1 reads 0;change sets 3 1 reads 1,2;"
            + "change reads 3,0;change sets 3 2;");
        y.cut(0);
        Runs.due("needs(0, 2)", y.needs(0, 2), 1);
        Runs.due("needs(0, 3)", y.needs(0, 3), 7);
        Runs.due("needs(0, 4)", y.needs(0, 4), 15);
        Runs.due("needs(0, 5)", y.needs(0, 5), 15);
    }

    private static void needsOfOtherValuesAlone() {
        Runs.about("terms 2: of each SLOT that it TOUCHES and that has another value there");
        CarriedBack x = Runs.of("change sets 0 1;change sets 1 1;change sets 1 2;change sets 1 1;"
            + "change reads 0,1;");
        x.cut(0);
        Runs.due("needs(0, 4)", x.needs(0, 4), 15);
        x.pick(0, 1);
        Runs.due("needs(0, 4): slot 1 has its value", x.needs(0, 4), 1);
        x.pick(0, 0);
        Runs.due("needs(0, 4)", x.needs(0, 4), 0);
        x.pick(0, 2);
        Runs.due("needs(0, 4)", x.needs(0, 4), 8);
    }

    private static void impossible(CarriedBack x, int l, int c) {
        Runs.due("needs(" + l + ", " + c + ")", x.needs(l, c), NONE);
        Runs.due("carry(" + l + ", " + c + ")", x.carry(l, c), NOT);
        Runs.due("lets(" + l + ", " + c + ", 0)", x.lets(l, c, 0), NOT);
    }

    private static void impossibleInIt() {
        Runs.about("terms 2: IMPOSSIBLE it is (NONE), if it is in it");
        CarriedBack x = Runs.of("change;change sets 0 1;change sets 0 1;change reads 0;change reads 1;");
        x.cut(5);
        for (int c = 0; c < 5; c++) {
            impossible(x, 0, c);
        }
        Runs.due("undo(0, 0)", x.undo(0, 0), 4);
        Runs.due("needs(0, 0): not any more", x.needs(0, 0), 0);
        Runs.due("lets(0, 0, 0)", x.lets(0, 0, 0), 1);
        Runs.due("carry(0, 0)", x.carry(0, 0), 1);
        impossible(x, 0, 0);
    }

    private static void impossibleForOneInIt() {
        Runs.about("terms 2: IMPOSSIBLE, if such a CHANGE is in the LINE already");
        CarriedBack x = Runs.of("change sets 0 1;change reads 0;change sets 0 2;change sets 1 1 reads 0;"
            + "change sets 2 1 reads 1;");
        x.cut(1);
        Runs.due("needs(0, 1)", x.needs(0, 1), 0);
        x.pick(0, 2);
        impossible(x, 0, 1);
        Runs.due("needs(0, 4)", x.needs(0, 4), 8);
        // one further back: 4 needs 3, and that one 0, which is in it
        CarriedBack y = Runs.of("change sets 0 1;change sets 1 1 reads 0;change sets 2 1 reads 1;change sets 0 2;"
            + "change sets 0 1;change reads 0;change sets 0 3;");
        y.cut(0);
        Runs.due("needs(0, 2)", y.needs(0, 2), 3);
        y.pick(0, 0);
        y.pick(0, 3);
        impossible(y, 0, 1);
        impossible(y, 0, 2);
        Runs.due("needs(0, 5)", y.needs(0, 5), 16);
    }

    private static void impossibleForOneThatWouldGoOn() {
        Runs.about("terms 2: IMPOSSIBLE, if such a CHANGE is in the LINE already: though it would go on once more");
        // 4 needs 2, that one 1, which is in it, and which slot 0 is ready for again
        CarriedBack x = Runs.of("change sets 0 1;change sets 0 2;change sets 1 1 reads 0;change sets 0 1;"
            + "change reads 1;");
        x.cut(2);
        Runs.due("pick(0, 3)", x.pick(0, 3), 3);
        impossible(x, 0, 2);
        impossible(x, 0, 4);
        Runs.about("terms 2: IMPOSSIBLE, if such a CHANGE is in the LINE already: though another one would do for it");
        // 3 reads slots 0, 1: 2 is the last one that sets slot 0, and is in it; 1, for slot 1, sets slot 0 alike
        CarriedBack y = Runs.of("change sets 0 1;change sets 0 2,1 5;change sets 0 2;change reads 0,1;");
        y.cut(3);
        Runs.due("undo(0, 1)", y.undo(0, 1), 2);
        Runs.due("clash(0, 3)", y.clash(0, 3), 3);
        impossible(y, 0, 3);
        Runs.due("pick(0, 1)", y.pick(0, 1), 3);
        Runs.due("needs(0, 3)", y.needs(0, 3), 0);
    }

    private static void impossibleForNone() {
        Runs.about("terms 2: IMPOSSIBLE, if such a CHANGE is in the LINE already (or there is none)");
        CarriedBack x = Runs.of("change reads 0;change sets 1 1;change reads 0,1;change sets 0 1;");
        x.cut(0);
        Runs.due("needs(0, 0)", x.needs(0, 0), 0);
        Runs.due("needs(0, 2)", x.needs(0, 2), 2);
        x.pick(0, 3);
        impossible(x, 0, 0);
        impossible(x, 0, 2);
        Runs.due("needs(0, 1)", x.needs(0, 1), 0);
        CarriedBack y = Runs.of("change reads 15;change sets 15 1;");
        y.cut(0);
        y.pick(0, 1);
        impossible(y, 0, 0);
    }

    private static void impossibleTogether() {
        Runs.about("terms 2: IMPOSSIBLE, if they do not go on CLEANLY in order of THE TRUNK for all that");
        // 3 reads slot 1, which 1 sets, which sets slot 0, too, that 3 would have as it is
        CarriedBack x = Runs.of("change sets 0 1;change sets 0 2,1 5;change sets 0 1;change reads 0,1;");
        x.cut(1);
        impossible(x, 0, 3);
        Runs.due("needs(0, 1)", x.needs(0, 1), 0);
        Runs.due("line(0, 1): none of them was picked", x.line(0, 1), 1);
        Runs.due("value(0, 0)", x.value(0, 0), 1);
        Runs.due("value(0, 1)", x.value(0, 1), 0);
        // behind 1 and 2 it goes on
        x.pick(0, 1);
        x.pick(0, 2);
        Runs.due("needs(0, 3)", x.needs(0, 3), 0);
        // among the needs one spoils another one: 2 needs slot 0 as it is, and 1 has set it
        CarriedBack y = Runs.of("change sets 0 1;change sets 0 2,1 5;change sets 0 1;change sets 2 6 reads 0;"
            + "change reads 1,2;");
        y.cut(1);
        Runs.due("needs(0, 3)", y.needs(0, 3), 0);
        impossible(y, 0, 4);
    }

    private static void possibleTogether() {
        Runs.about("terms 2: NEEDS: the least SET, so that all of them, then it, go on CLEANLY: these, not each of them"
            + " for itself");
        // 3 needs 1 alone, which spoils slot 0 for it; 4 needs 3 and 2, and 2 sets slot 0 back ahead of 3
        CarriedBack x = Runs.of("change sets 0 1;change sets 0 2,1 5;change sets 0 1,2 6;change sets 3 7 reads 0,1;"
            + "change reads 2,3;fault 9 from 0 till 4;");
        x.cut(1);
        impossible(x, 0, 3);
        Runs.due("needs(0, 4)", x.needs(0, 4), 14);
        Runs.due("cost(0, 1)", x.cost(0, 1), 30);
        Runs.due("lets(0, 4, 0)", x.lets(0, 4, 0), 1);
        Runs.due("carry(0, 4)", x.carry(0, 4), 4);
        Runs.due("line(0, 1)", x.line(0, 1), 31);
    }

    private static void carryingOneAndAll() {
        Runs.about("promise 18: A CHANGE and its NEEDS are PICKED: how many were");
        for (int c = 0; c < 24; c++) {
            CarriedBack x = Runs.of(chain());
            x.cut(0);
            x.cut(c);
            Runs.due("carry(0, " + c + ")", x.carry(0, c), c + 1);
            Runs.due("line(0, 1)", x.line(0, 1), (1 << c + 1) - 1);
            Runs.due("value(0, 0)", x.value(0, 0), c + 1);
            Runs.due("carry(1, " + c + "): it alone", x.carry(1, c), 1);
            Runs.due("line(1, 1)", x.line(1, 1), (1 << c + 1) - 1);
        }
    }

    // ---- apart

    private static void apart(CarriedBack x, int c, int d, int want) {
        Runs.due("apart(0, " + c + ", " + d + ")", x.apart(0, c, d), want);
        Runs.due("apart(0, " + d + ", " + c + ")", x.apart(0, d, c), want);
    }

    private static void apartInEitherOrder() {
        Runs.about("terms 2: APART: both go on CLEANLY in either order, with the same values behind both");
        for (int s = 0; s <= 15; s++) {
            int other = (s + 1) % 16;
            CarriedBack x = Runs.of("change;change sets " + s + " 1;change sets " + other + " 1;change reads "
                + (s + 2) % 16 + ";change sets " + s + " 2;change reads " + s + ";");
            x.cut(0);
            apart(x, 0, 1, 1);
            apart(x, 1, 2, 1);
            apart(x, 1, 3, 1);
            apart(x, 1, 4, 0);
            apart(x, 4, 5, 0);
            apart(x, 0, 5, 0);
        }
        // one sets what the other one reads: in one order alone
        CarriedBack y = Runs.of("change reads 0;change sets 0 1;change reads 0;");
        y.cut(0);
        apart(y, 0, 1, 0);
        apart(y, 1, 2, 0);
        apart(y, 0, 2, 0);
        // both set the same to what is there
        CarriedBack z = Runs.of("change sets 0 1;change sets 0 1;change sets 0 1;change sets 0 2;change sets 0 2;");
        z.cut(1);
        apart(z, 1, 2, 1);
        apart(z, 2, 3, 0);
        apart(z, 3, 4, 0);
        Runs.about("promise 19: the last two of 24; NOT: one is in it");
        CarriedBack w = Runs.of("change;".repeat(24));
        w.cut(22);
        apart(w, 22, 23, 1);
        apart(w, 21, 22, NOT);
        apart(w, 20, 21, NOT);
        apart(w, 23, 23, UNKNOWN);
        apart(w, 23, 24, UNKNOWN);
        apart(w, 21, 24, UNKNOWN);
        apart(w, 0, 0, UNKNOWN);
    }

    // ---- faults and fixes

    private static void faultsInASet() {
        Runs.about("terms 2: A FAULT is in a SET, if the one with which it comes is in it, and not the one with which"
            + " it goes");
        String text = "change;change;fault 1 from 0 till 1;fault 2 from 0;fault 4 from 1;";
        int[] want = {0, 3, 4, 6};
        for (int set = 0; set < 4; set++) {
            CarriedBack x = Runs.of(text);
            x.cut(0);
            for (int c = 0; c < 2; c++) {
                if ((set >> c & 1) != 0) {
                    x.pick(0, c);
                }
            }
            x.release(0, 0);
            Runs.due("line(0, 2) of " + set, x.line(0, 2), want[set]);
            Runs.due("released(0, 3) of " + set, x.released(0, 3), want[set]);
        }
        CarriedBack y = Runs.of("change;".repeat(24) + "fault 1 from 22 till 23;".repeat(10));
        y.cut(22);
        y.cut(23);
        y.cut(24);
        Runs.due("line(0, 2)", y.line(0, 2), 0);
        Runs.due("line(1, 2)", y.line(1, 2), 1023);
        Runs.due("line(2, 2)", y.line(2, 2), 0);
    }

    private static void costOfNoneAndAll() {
        Runs.about("terms 2: COST of a SET of FAULTS: the SET of all CHANGES with which they go and their NEEDS");
        StringBuilder text = new StringBuilder("change;".repeat(11));
        for (int f = 0; f < 10; f++) {
            text.append("fault 1 from 0 till ").append(f + 1).append(';');
        }
        CarriedBack x = Runs.of(text.toString());
        x.cut(1);
        Runs.due("cost(0, 0)", x.cost(0, 0), 0);
        for (int f = 0; f < 10; f++) {
            Runs.due("cost(0, " + (1 << f) + ")", x.cost(0, 1 << f), 2 << f);
        }
        Runs.due("cost(0, 1023)", x.cost(0, 1023), 2046);
        Runs.due("cost(0, 1024)", x.cost(0, 1024), UNKNOWN);
        Runs.due("cost(0, 2047)", x.cost(0, 2047), UNKNOWN);
        Runs.due("cost(0, -1)", x.cost(0, -1), UNKNOWN);
        x.cut(0);
        Runs.due("cost(1, 0) of an empty line", x.cost(1, 0), 0);
        Runs.due("cost(1, 1) of an empty line", x.cost(1, 1), NONE);
        CarriedBack y = Runs.of("change;");
        y.cut(1);
        Runs.due("cost(0, 0) without faults", y.cost(0, 0), 0);
        Runs.due("cost(0, 1) without faults", y.cost(0, 1), UNKNOWN);
        CarriedBack z = Runs.of(chain() + "fault 1 from 0 till 23;");
        z.cut(1);
        Runs.due("cost(0, 1), all of the rest", z.cost(0, 1), ALL & ~1);
    }

    private static void costOfEachThatCannotGo() {
        Runs.about("terms 2: NONE, if some FAULT of it is not in the LINE, has no 'till', is IMPOSSIBLE");
        // 0 goes, 1 came not, 2 is gone, 3 never goes, 4 goes with 5, which is IMPOSSIBLE
        CarriedBack x = Runs.of("change sets 0 1;change;change reads 1;change;change sets 0 2;change reads 0;"
            + "change sets 0 3;fault 1 from 0 till 1;fault 1 from 3 till 6;fault 1 from 0 till 2;fault 1 from 0;"
            + "fault 1 from 4 till 5;");
        x.cut(1);
        x.pick(0, 2);
        x.pick(0, 4);
        Runs.due("pick(0, 6)", x.pick(0, 6), 4);
        Runs.due("line(0, 2)", x.line(0, 2), 1 + 8 + 16);
        Runs.due("cost of 0", x.cost(0, 1), 2);
        Runs.due("cost of 1: it came not", x.cost(0, 2), NONE);
        Runs.due("cost of 2: it is gone", x.cost(0, 4), NONE);
        Runs.due("cost of 3: no 'till'", x.cost(0, 8), NONE);
        Runs.due("cost of 4: IMPOSSIBLE", x.cost(0, 16), NONE);
        for (int f = 1; f < 5; f++) {
            Runs.due("cost of 0 and " + f, x.cost(0, 1 | 1 << f), NONE);
        }
        Runs.due("best(0, 24, 99, 0)", x.best(0, 24, 99, 0), 1);
        x.undo(0, 6);
        Runs.due("cost of 4: not any more", x.cost(0, 16), 32);
        Runs.due("cost of 0 and 4", x.cost(0, 17), 34);
        // 3 reads slot 0, which 5 has set; all others would go on
        CarriedBack y = Runs.of("change;change;change;change reads 0;change;change sets 0 1;fault 1 from 0 till 3;");
        y.cut(1);
        y.every(0, 1);
        Runs.due("soonest(0, 0)", y.soonest(0, 0), 0);
        y.pick(0, 5);
        Runs.due("cost(0, 1): IMPOSSIBLE", y.cost(0, 1), NONE);
        Runs.due("best(0, 24, 99, 2)", y.best(0, 24, 99, 2), 0);
        Runs.due("soonest(0, 0)", y.soonest(0, 0), NONE);
    }

    private static void costTogether() {
        Runs.about("terms 2: if all of these go on CLEANLY in order of THE TRUNK");
        // 1 sets slot 0, which 2 reads as it is on the line
        CarriedBack x = Runs.of("change sets 0 1;change sets 0 2;change sets 0 1;change reads 0;change;"
            + "fault 7 from 0 till 1;fault 8 from 0 till 3;fault 1 from 0 till 4;");
        x.cut(1);
        Runs.due("cost(0, 1)", x.cost(0, 1), 2);
        Runs.due("cost(0, 2)", x.cost(0, 2), 8);
        Runs.due("cost(0, 3)", x.cost(0, 3), NONE);
        Runs.due("cost(0, 5)", x.cost(0, 5), 18);
        Runs.due("cost(0, 7)", x.cost(0, 7), NONE);
        Runs.due("best(0, 24, 99, 0)", x.best(0, 24, 99, 0), 6);
        Runs.about("terms 2: NEEDS (each for the LINE as it is)");
        CarriedBack y = Runs.of("change;change sets 0 1;change sets 1 1 reads 0;change sets 2 1 reads 0;"
            + "fault 1 from 0 till 2;fault 1 from 0 till 3;fault 1 from 0 till 1;");
        y.cut(1);
        Runs.due("cost(0, 1)", y.cost(0, 1), 6);
        Runs.due("cost(0, 2)", y.cost(0, 2), 10);
        Runs.due("cost(0, 3)", y.cost(0, 3), 14);
        Runs.due("cost(0, 4)", y.cost(0, 4), 2);
        Runs.due("cost(0, 7)", y.cost(0, 7), 14);
    }

    private static void best(CarriedBack x, int n, int r, int faults, int weight, int cost) {
        Runs.due("best(0, " + n + ", " + r + ", 0)", x.best(0, n, r, 0), faults);
        Runs.due("best(0, " + n + ", " + r + ", 1)", x.best(0, n, r, 1), weight);
        Runs.due("best(0, " + n + ", " + r + ", 2)", x.best(0, n, r, 2), cost);
    }

    private static void bestWithinPicks() {
        Runs.about("terms 2: a COST of n CHANGES or fewer (n 0 .. 24)");
        CarriedBack x = Runs.of(chain() + "fault 9 from 0 till 23;fault 2 from 0 till 1;");
        x.cut(1);
        best(x, 0, 99, 0, 0, 0);
        best(x, 1, 99, 2, 2, 2);
        best(x, 22, 99, 2, 2, 2);
        best(x, 23, 99, 3, 11, ALL & ~1);
        best(x, 24, 99, 3, 11, ALL & ~1);
        Runs.due("best(0, 25, 99, 0)", x.best(0, 25, 99, 0), OUTSIDE);
        Runs.due("best(0, -1, 99, 0)", x.best(0, -1, 99, 0), OUTSIDE);
    }

    private static void bestWithinRisk() {
        Runs.about("terms 2: of RISKS r or less together (r 0 .. 99)");
        // 11 changes of risk 9, then one of risk 1 behind them all, one of risk 0, one of risk 9 alone
        StringBuilder text = new StringBuilder("change;");
        for (int v = 1; v <= 11; v++) {
            text.append("change sets 0 ").append(v).append(" risk 9;");
        }
        text.append("change sets 0 12 risk 1;change;change risk 9;fault 9 from 0 till 11;fault 50 from 0 till 12;"
            + "fault 1 from 0 till 13;fault 2 from 0 till 14;");
        CarriedBack x = Runs.of(text.toString());
        x.cut(1);
        int chain = (1 << 12) - 2;
        best(x, 24, 0, 4, 1, 1 << 13);
        best(x, 24, 8, 4, 1, 1 << 13);
        best(x, 24, 9, 12, 3, 3 << 13);
        best(x, 24, 98, 12, 3, 3 << 13);
        best(x, 24, 99, 5, 10, chain | 1 << 13);
        Runs.due("cost(0, 2), of risk 100", x.cost(0, 2), chain | 1 << 12);
        Runs.due("best(0, 24, 100, 0)", x.best(0, 24, 100, 0), OUTSIDE);
        Runs.due("best(0, 24, -1, 0)", x.best(0, 24, -1, 0), OUTSIDE);
        Runs.due("best(0, 24, 99, 3)", x.best(0, 24, 99, 3), OUTSIDE);
        Runs.due("best(0, 24, 99, -1)", x.best(0, 24, 99, -1), OUTSIDE);
    }

    private static void bestOfLikeOnes() {
        Runs.about("terms 2: the greatest weight; of like ones that with the fewest CHANGES, then the least SET");
        // {0} at two changes, {1} at one change, {2} at one change
        CarriedBack x = Runs.of("change;change sets 0 1;change reads 0;change;change;fault 6 from 0 till 2;"
            + "fault 6 from 0 till 3;fault 6 from 0 till 4;");
        x.cut(1);
        best(x, 1, 99, 2, 6, 8);
        best(x, 2, 99, 6, 12, 24);
        best(x, 3, 99, 6, 12, 24);
        best(x, 4, 99, 7, 18, 30);
        // {0, 1} and {2}, each of two changes and of weight 6; with one more {3} is greater
        CarriedBack y = Runs.of("change;change;change;change sets 0 1;change reads 0;change risk 9;"
            + "fault 2 from 0 till 1;fault 4 from 0 till 2;fault 6 from 0 till 4;fault 7 from 0 till 5;");
        y.cut(1);
        best(y, 2, 8, 3, 6, 6);
        best(y, 1, 8, 2, 4, 4);
        best(y, 1, 9, 8, 7, 32);
        best(y, 2, 9, 10, 11, 36);
        // a fault more at no change more
        CarriedBack z = Runs.of("change;change;fault 1 from 0 till 1;fault 99 from 0 till 1;");
        z.cut(1);
        best(z, 1, 0, 3, 100, 2);
        best(z, 0, 0, 0, 0, 0);
    }

    private static void bestOfNone() {
        Runs.about("terms 2: THE BEST FIXES where none can be: the empty SET");
        CarriedBack x = Runs.of("change;change;fault 1 from 0;");
        x.cut(0);
        best(x, 24, 99, 0, 0, 0);
        x.pick(0, 0);
        best(x, 24, 99, 0, 0, 0);
        CarriedBack y = Runs.of("");
        y.cut(0);
        best(y, 24, 99, 0, 0, 0);
        best(y, 0, 0, 0, 0, 0);
        StringBuilder text = new StringBuilder("change;".repeat(24));
        for (int f = 0; f < 10; f++) {
            text.append("fault 99 from 0 till ").append(f + 14).append(';');
        }
        CarriedBack z = Runs.of(text.toString());
        z.cut(14);
        best(z, 10, 0, 1023, 990, 1023 << 14);
        best(z, 9, 0, 511, 891, 511 << 14);
    }

    private static void laterByNoneAndAll() {
        Runs.about("promise 22: had it been cut behind n CHANGES more (none above all). OUTSIDE (n 0 .. 24)");
        StringBuilder text = new StringBuilder("change;".repeat(24));
        // behind n changes: as many faults as the first n changes bring
        text.append("fault 1 from 0;fault 2 from 1;fault 4 from 22;fault 8 from 23;");
        CarriedBack x = Runs.of(text.toString());
        x.cut(0);
        x.cut(1);
        x.cut(23);
        x.cut(24);
        int[][] want = {{0, 0, 0}, {0, 1, -1}, {0, 2, -3}, {0, 22, -3}, {0, 23, -7}, {0, 24, -15}, {1, 0, 0},
            {1, 1, -2}, {1, 22, -6}, {1, 23, -14}, {1, 24, -14}, {2, 0, 0}, {2, 1, -8}, {2, 2, -8}, {2, 24, -8},
            {3, 0, 0}, {3, 1, 0}, {3, 24, 0}};
        for (int[] w : want) {
            Runs.due("later(" + w[0] + ", " + w[1] + ")", x.later(w[0], w[1]), w[2]);
        }
        for (int l = 0; l < 4; l++) {
            Runs.due("later(" + l + ", 25)", x.later(l, 25), OUTSIDE);
            Runs.due("later(" + l + ", -1)", x.later(l, -1), OUTSIDE);
        }
    }

    private static void laterAsItIs() {
        Runs.about("promise 22: FAULTS in a LINE as it is, less what would be, and nothing been PICKED, UNDONE");
        CarriedBack x = Runs.of("change;change;change;fault 99 from 0 till 2;fault 5 from 1;");
        x.cut(1);
        Runs.due("later(0, 0)", x.later(0, 0), 0);
        Runs.due("later(0, 1)", x.later(0, 1), -5);
        Runs.due("later(0, 2)", x.later(0, 2), 94);
        x.pick(0, 1);
        Runs.due("later(0, 0)", x.later(0, 0), 5);
        Runs.due("later(0, 1)", x.later(0, 1), 0);
        Runs.due("later(0, 2)", x.later(0, 2), 99);
        x.undo(0, 0);
        Runs.due("later(0, 0)", x.later(0, 0), -94);
        x.undo(0, 1);
        Runs.due("later(0, 0) of an empty one", x.later(0, 0), -99);
        Runs.due("later(0, 2)", x.later(0, 2), -5);
    }
}
