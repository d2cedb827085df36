/** Promises 23 to 30: releases, notes, dangers and trains. */
public final class ReleasesTest {
    /** Changes that touch nothing, so that each can be picked and undone at will. */
    static final String FREE = "change risk 1;change risk 2;change risk 4;change risk 8;fault 3 from 0 till 1;"
        + "fault 4 from 2;fault 5 from 2 till 3;";

    private ReleasesTest() {
    }

    /** Nine releases of two lines, 0, 2, 3, 4, 6, 8 of the first. */
    static CarriedBack nine() {
        CarriedBack x = Runs.of(FREE);
        x.cut(1);
        x.cut(0);
        x.release(0, 0);
        x.release(1, 0);
        x.pick(0, 1);
        x.release(0, 5);
        x.undo(0, 1);
        x.release(0, 5);
        x.pick(0, 1);
        x.release(0, 9);
        x.pick(1, 0);
        x.release(1, 9);
        x.pick(0, 2);
        x.release(0, 12);
        x.pick(1, 1);
        x.pick(1, 2);
        x.pick(1, 3);
        x.release(1, 20);
        x.release(0, 20);
        return x;
    }

    public static void main(String[] args) {
        releasing();
        releaseTold();
        notes();
        differing();
        freed();
        danger();
        trains();
        soonest();
        Runs.close();
    }

    private static void releasing() {
        Runs.about("promise 23");
        CarriedBack x = Runs.of(FREE);
        x.cut(1);
        x.cut(2);
        Runs.due("release(0, -1)", x.release(0, -1), CarriedBack.OUTSIDE);
        Runs.due("release(0, 1000)", x.release(0, 1000), CarriedBack.OUTSIDE);
        Runs.due("release(2, 0)", x.release(2, 0), CarriedBack.UNKNOWN);
        Runs.due("release(-1, -1)", x.release(-1, -1), CarriedBack.UNKNOWN);
        Runs.due("count(3)", x.count(3), 0);
        Runs.due("release(0, 0)", x.release(0, 0), 0);
        Runs.due("release(1, 7)", x.release(1, 7), 1);
        Runs.due("release(0, 6): another line's was later", x.release(0, 6), CarriedBack.NOT);
        Runs.due("release(0, 7)", x.release(0, 7), 2);
        Runs.due("release(0, -1)", x.release(0, -1), CarriedBack.OUTSIDE);
        for (int r = 3; r < 20; r++) {
            Runs.due("release(1, 998)", x.release(1, 998), r);
        }
        Runs.due("release(1, 998), a 21st", x.release(1, 998), CarriedBack.FULL);
        Runs.due("release(1, 999), a 21st", x.release(1, 999), CarriedBack.FULL);
        Runs.due("release(1, 997), a 21st", x.release(1, 997), CarriedBack.NOT);
        Runs.due("release(1, 1000), a 21st", x.release(1, 1000), CarriedBack.OUTSIDE);
        Runs.due("count(3)", x.count(3), 20);
        CarriedBack y = Runs.of(FREE);
        y.cut(1);
        Runs.due("release(0, 999)", y.release(0, 999), 0);
    }

    private static void releaseTold() {
        Runs.about("promise 24");
        CarriedBack x = nine();
        int[][] want = {{0, 0, 1, 1}, {1, 0, 0, 0}, {0, 5, 3, 0}, {0, 5, 1, 1}, {0, 9, 3, 0}, {1, 9, 1, 1},
            {0, 12, 7, 6}, {1, 20, 15, 2}, {0, 20, 7, 6}};
        for (int r = 0; r < want.length; r++) {
            for (int what = 0; what < 4; what++) {
                Runs.due("released(" + r + ", " + what + ")", x.released(r, what), want[r][what]);
            }
        }
        Runs.due("released(9, 0)", x.released(9, 0), CarriedBack.UNKNOWN);
        Runs.due("released(-1, 0)", x.released(-1, 0), CarriedBack.UNKNOWN);
        Runs.due("released(9, 4)", x.released(9, 4), CarriedBack.UNKNOWN);
        Runs.due("released(8, 4)", x.released(8, 4), CarriedBack.OUTSIDE);
        Runs.due("released(0, -1)", x.released(0, -1), CarriedBack.OUTSIDE);
    }

    private static void notes() {
        Runs.about("promise 25");
        CarriedBack x = nine();
        int[][] want = {{0, 7, 14, 0, 1, 2}, {7, 0, 0, 14, 2, 1}, {5, 1, 0, 1, 1, 0}, {6, 7, 8, 0, 4, 0},
            {6, 5, 0, 6, 6, 1}, {3, 3, 0, 0, 0, 0}};
        for (int[] w : want) {
            for (int what = 0; what < 4; what++) {
                Runs.due("notes(" + w[0] + ", " + w[1] + ", " + what + ")", x.notes(w[0], w[1], what), w[2 + what]);
            }
        }
        Runs.due("notes(9, 0, 0)", x.notes(9, 0, 0), CarriedBack.UNKNOWN);
        Runs.due("notes(0, 9, 4)", x.notes(0, 9, 4), CarriedBack.UNKNOWN);
        Runs.due("notes(-1, 0, 0)", x.notes(-1, 0, 0), CarriedBack.UNKNOWN);
        Runs.due("notes(0, -1, 0)", x.notes(0, -1, 0), CarriedBack.UNKNOWN);
        Runs.due("notes(0, 1, 4)", x.notes(0, 1, 4), CarriedBack.OUTSIDE);
        Runs.due("notes(0, 1, -1)", x.notes(0, 1, -1), CarriedBack.OUTSIDE);
    }

    private static void differing() {
        Runs.about("promise 26");
        CarriedBack x = Runs.of(TrunkTest.TRUNK + "change sets 15 1;");
        x.cut(1);
        x.cut(4);
        x.release(0, 1);
        x.release(1, 1);
        x.pick(0, 1);
        x.pick(0, 6);
        x.release(0, 2);
        Runs.due("differs(0, 1)", x.differs(0, 1), 7);
        Runs.due("differs(1, 0)", x.differs(1, 0), 7);
        Runs.due("differs(0, 2): its values then", x.differs(0, 2), 32770);
        Runs.due("differs(1, 2)", x.differs(1, 2), 32773);
        Runs.due("differs(2, 2)", x.differs(2, 2), 0);
        Runs.due("differs(3, 0)", x.differs(3, 0), CarriedBack.UNKNOWN);
        Runs.due("differs(0, 3)", x.differs(0, 3), CarriedBack.UNKNOWN);
        Runs.due("differs(-1, 0)", x.differs(-1, 0), CarriedBack.UNKNOWN);
        Runs.due("differs(0, -1)", x.differs(0, -1), CarriedBack.UNKNOWN);
    }

    private static void freed() {
        Runs.about("promise 27");
        CarriedBack x = nine();
        Runs.due("freed(0, 0): none later has it", x.freed(0, 0), 4);
        Runs.due("freed(0, 1)", x.freed(0, 1), 7);
        Runs.due("freed(1, 0): it still has it", x.freed(1, 0), CarriedBack.NONE);
        Runs.due("freed(2, 1): it never had it", x.freed(2, 1), CarriedBack.NONE);
        Runs.due("freed(3, 0)", x.freed(3, 0), CarriedBack.UNKNOWN);
        Runs.due("freed(-1, 0)", x.freed(-1, 0), CarriedBack.UNKNOWN);
        Runs.due("freed(0, 2)", x.freed(0, 2), CarriedBack.UNKNOWN);
        Runs.due("freed(0, -1)", x.freed(0, -1), CarriedBack.UNKNOWN);
        x.undo(0, 1);
        x.release(0, 20);
        Runs.due("freed(0, 0): it came again", x.freed(0, 0), CarriedBack.NONE);
        x.pick(0, 1);
        x.release(0, 20);
        x.release(0, 21);
        Runs.due("freed(0, 0): the first of those", x.freed(0, 0), 10);
        CarriedBack y = Runs.of(FREE);
        y.cut(1);
        y.release(0, 0);
        y.pick(0, 1);
        y.release(0, 0);
        Runs.due("freed(0, 0): the very first had it", y.freed(0, 0), 1);
        x.cut(0);
        Runs.due("freed(0, 2): no release", x.freed(0, 2), CarriedBack.NONE);
    }

    private static void danger() {
        Runs.about("promise 28");
        CarriedBack x = nine();
        int[][] want = {{0, 0, 999, 20}, {0, 0, 0, 1}, {0, 4, 4, 1}, {0, 5, 5, 1}, {0, 8, 8, 1}, {0, 8, 9, 2},
            {0, 9, 9, 1}, {0, 19, 19, 1}, {0, 20, 999, 0}, {0, 2, 6, 5}, {1, 0, 999, 1968}, {1, 20, 20, 2},
            {1, 0, 11, 0}, {1, 12, 12, 1}, {2, 0, 999, 988}, {1, 999, 999, 2}};
        for (int[] w : want) {
            Runs.due("danger(" + w[0] + ", " + w[1] + ", " + w[2] + ")", x.danger(w[0], w[1], w[2]), w[3]);
        }
        Runs.due("danger(3, 0, 0)", x.danger(3, 0, 0), CarriedBack.UNKNOWN);
        Runs.due("danger(-1, 5, 0)", x.danger(-1, 5, 0), CarriedBack.UNKNOWN);
        Runs.due("danger(0, -1, 0)", x.danger(0, -1, 0), CarriedBack.OUTSIDE);
        Runs.due("danger(0, 0, 1000)", x.danger(0, 0, 1000), CarriedBack.OUTSIDE);
        Runs.due("danger(0, 1000, 1000)", x.danger(0, 1000, 1000), CarriedBack.OUTSIDE);
        Runs.due("danger(0, 5, 4)", x.danger(0, 5, 4), CarriedBack.OUTSIDE);
        // of two on one day the latest made counts, of whichever is free
        CarriedBack y = Runs.of(FREE);
        y.cut(1);
        Runs.due("danger(0, 0, 9): no release", y.danger(0, 0, 9), 0);
        y.release(0, 3);
        y.pick(0, 1);
        y.release(0, 3);
        Runs.due("danger(0, 0, 9)", y.danger(0, 0, 9), 0);
        y.undo(0, 1);
        y.release(0, 3);
        Runs.due("danger(0, 0, 9)", y.danger(0, 0, 9), 7);
    }

    private static void trains() {
        Runs.about("promise 29");
        CarriedBack x = Runs.of(FREE);
        x.cut(1);
        x.cut(1);
        Runs.due("every(0, 7)", x.every(0, 7), 0);
        Runs.due("every(0, 99)", x.every(0, 99), 7);
        Runs.due("every(1, 1)", x.every(1, 1), 0);
        Runs.due("every(0, 100)", x.every(0, 100), CarriedBack.OUTSIDE);
        Runs.due("every(0, -1)", x.every(0, -1), CarriedBack.OUTSIDE);
        Runs.due("line(0, 4)", x.line(0, 4), 99);
        Runs.due("every(0, 0)", x.every(0, 0), 99);
        Runs.due("line(0, 4)", x.line(0, 4), 0);
        Runs.due("line(1, 4)", x.line(1, 4), 1);
        Runs.due("every(2, 0)", x.every(2, 0), CarriedBack.UNKNOWN);
        Runs.due("every(-1, 100)", x.every(-1, 100), CarriedBack.UNKNOWN);
    }

    private static void soonest() {
        Runs.about("promise 30");
        CarriedBack x = Runs.of(FREE);
        Runs.due("soonest(0, 0): no line", x.soonest(0, 0), CarriedBack.NOBODY);
        x.cut(1);
        x.cut(0);
        Runs.due("soonest(0, 0): no trains", x.soonest(0, 0), CarriedBack.NONE);
        x.every(0, 7);
        int[][] one = {{0, 0}, {1, 7}, {6, 7}, {7, 7}, {8, 14}};
        for (int[] w : one) {
            Runs.due("soonest(0, " + w[0] + ")", x.soonest(0, w[0]), w[1]);
        }
        Runs.due("soonest(1, 0): nobody has it", x.soonest(1, 0), CarriedBack.NOBODY);
        x.pick(1, 0);
        Runs.due("soonest(0, 0): one has no trains", x.soonest(0, 0), CarriedBack.NONE);
        x.every(1, 10);
        int[][] two = {{0, 0}, {1, 10}, {8, 14}, {11, 20}, {14, 20}, {64, 70}, {70, 70}, {71, 80}};
        for (int[] w : two) {
            Runs.due("soonest(0, " + w[0] + ")", x.soonest(0, w[0]), w[1]);
        }
        Runs.due("soonest(0, 980)", x.soonest(0, 980), 980);
        x.pick(1, 2);
        Runs.due("soonest(1, 0): it never goes", x.soonest(1, 0), CarriedBack.NONE);
        Runs.due("soonest(2, 3)", x.soonest(2, 3), 10);
        Runs.due("line(1, 1): nothing is picked", x.line(1, 1), 5);
        x.pick(1, 1);
        Runs.due("soonest(0, 8): the other one alone", x.soonest(0, 8), 14);
        Runs.due("soonest(3, 0)", x.soonest(3, 0), CarriedBack.UNKNOWN);
        Runs.due("soonest(-1, -1)", x.soonest(-1, -1), CarriedBack.UNKNOWN);
        Runs.due("soonest(0, -1)", x.soonest(0, -1), CarriedBack.OUTSIDE);
        Runs.due("soonest(0, 1000)", x.soonest(0, 1000), CarriedBack.OUTSIDE);
        CarriedBack y = Runs.of("change sets 0 5;change sets 0 6;change sets 0 5;change sets 0 7;"
            + "fault 9 from 0 till 1;");
        y.cut(1);
        y.every(0, 1);
        Runs.due("soonest(0, 3)", y.soonest(0, 3), 3);
        y.pick(0, 3);
        Runs.due("soonest(0, 3): no cost", y.soonest(0, 3), CarriedBack.NONE);
    }
}
