/** Promises 11 to 22: lines, what goes on them, and fixes. */
public final class LinesTest {
    private LinesTest() {
    }

    public static void main(String[] args) {
        cutting();
        linesThemselves();
        values();
        clashes();
        picking();
        undoing();
        needing();
        impossible();
        carrying();
        apart();
        costs();
        bestFixes();
        bestOfLike();
        laterCuts();
        Runs.close();
    }

    private static void cutting() {
        Runs.about("promise 11");
        CarriedBack x = Runs.of(TrunkTest.TRUNK);
        Runs.due("cut(-1)", x.cut(-1), CarriedBack.OUTSIDE);
        Runs.due("cut(7)", x.cut(7), CarriedBack.OUTSIDE);
        Runs.due("count(2)", x.count(2), 0);
        Runs.due("cut(0)", x.cut(0), 0);
        Runs.due("cut(6)", x.cut(6), 1);
        Runs.due("cut(3)", x.cut(3), 2);
        Runs.due("cut(3)", x.cut(3), 3);
        Runs.due("cut(3), a fifth", x.cut(3), CarriedBack.FULL);
        Runs.due("cut(7), a fifth", x.cut(7), CarriedBack.OUTSIDE);
        Runs.due("count(2)", x.count(2), 4);
        int[] slots = {5, 7, 6, 0};
        for (int s = 0; s < 4; s++) {
            Runs.due("value(0, " + s + ")", x.value(0, s), 0);
            Runs.due("value(1, " + s + ")", x.value(1, s), slots[s]);
        }
        Runs.due("value(2, 0)", x.value(2, 0), 3);
        Runs.due("value(3, 1)", x.value(3, 1), 2);
        Runs.due("value(3, 2)", x.value(3, 2), 0);
        CarriedBack y = Runs.of("change sets 15 9;".repeat(24));
        Runs.due("cut(24)", y.cut(24), 0);
        Runs.due("line(0, 1)", y.line(0, 1), 16777215);
        Runs.due("cut(25)", y.cut(25), CarriedBack.OUTSIDE);
    }

    private static void linesThemselves() {
        Runs.about("promise 12");
        CarriedBack x = Runs.of(TrunkTest.TRUNK);
        x.cut(1);
        x.cut(4);
        x.cut(6);
        x.every(1, 30);
        int[][] want = {{1, 1, 1, 0, 0}, {4, 15, 6, 4, 30}, {6, 63, 2, 6, 0}};
        for (int l = 0; l < 3; l++) {
            for (int what = 0; what < 5; what++) {
                Runs.due("line(" + l + ", " + what + ")", x.line(l, what), want[l][what]);
            }
        }
        x.pick(0, 1);
        Runs.due("line(0, 0): where it was cut stays", x.line(0, 0), 1);
        Runs.due("line(0, 1)", x.line(0, 1), 3);
        Runs.due("line(0, 2)", x.line(0, 2), 0);
        Runs.due("line(0, 3)", x.line(0, 3), 3);
        x.undo(2, 5);
        x.undo(2, 4);
        Runs.due("line(2, 2): a fault comes again", x.line(2, 2), 6);
        Runs.due("line(3, 0)", x.line(3, 0), CarriedBack.UNKNOWN);
        Runs.due("line(-1, 0)", x.line(-1, 0), CarriedBack.UNKNOWN);
        Runs.due("line(3, 5)", x.line(3, 5), CarriedBack.UNKNOWN);
        Runs.due("line(0, 5)", x.line(0, 5), CarriedBack.OUTSIDE);
        Runs.due("line(0, -1)", x.line(0, -1), CarriedBack.OUTSIDE);
    }

    private static void values() {
        Runs.about("promise 13");
        CarriedBack x = Runs.of("change sets 0 1,15 2;change sets 15 3;");
        x.cut(1);
        x.cut(0);
        Runs.due("value(0, 0)", x.value(0, 0), 1);
        Runs.due("value(0, 15)", x.value(0, 15), 2);
        Runs.due("value(1, 15)", x.value(1, 15), 0);
        x.pick(0, 1);
        Runs.due("value(0, 15)", x.value(0, 15), 3);
        Runs.due("value(1, 0)", x.value(1, 0), 0);
        Runs.due("value(2, 0)", x.value(2, 0), CarriedBack.UNKNOWN);
        Runs.due("value(-1, 0)", x.value(-1, 0), CarriedBack.UNKNOWN);
        Runs.due("value(0, 16)", x.value(0, 16), CarriedBack.UNKNOWN);
        Runs.due("value(1, -1)", x.value(1, -1), CarriedBack.UNKNOWN);
    }

    private static void clashes() {
        Runs.about("promise 14");
        CarriedBack x = Runs.of(TrunkTest.TRUNK);
        x.cut(1);
        x.cut(0);
        Runs.due("clash(0, 1)", x.clash(0, 1), 0);
        Runs.due("clash(0, 2)", x.clash(0, 2), 0);
        Runs.due("clash(0, 4): what it sets", x.clash(0, 4), 5);
        Runs.due("clash(0, 5): what it reads, too", x.clash(0, 5), 6);
        Runs.due("clash(1, 1): what it reads alone", x.clash(1, 1), 1);
        Runs.due("clash(0, 0): in it", x.clash(0, 0), CarriedBack.NOT);
        Runs.due("clash(2, 0)", x.clash(2, 0), CarriedBack.UNKNOWN);
        Runs.due("clash(-1, 0)", x.clash(-1, 0), CarriedBack.UNKNOWN);
        Runs.due("clash(0, 6)", x.clash(0, 6), CarriedBack.UNKNOWN);
        Runs.due("clash(0, -1)", x.clash(0, -1), CarriedBack.UNKNOWN);
    }

    private static void picking() {
        Runs.about("promise 15");
        CarriedBack x = Runs.of(TrunkTest.TRUNK);
        x.cut(1);
        x.cut(0);
        Runs.due("pick(0, 3)", x.pick(0, 3), 2);
        Runs.due("line(0, 1)", x.line(0, 1), 9);
        Runs.due("value(0, 2)", x.value(0, 2), 4);
        Runs.due("pick(0, 3): in it", x.pick(0, 3), CarriedBack.NOT);
        Runs.due("pick(0, 4): not cleanly", x.pick(0, 4), CarriedBack.NOT);
        Runs.due("line(0, 1)", x.line(0, 1), 9);
        Runs.due("value(0, 0)", x.value(0, 0), 1);
        Runs.due("pick(0, 2)", x.pick(0, 2), 3);
        Runs.due("pick(0, 4)", x.pick(0, 4), 4);
        Runs.due("value(0, 0)", x.value(0, 0), 5);
        Runs.due("value(0, 2)", x.value(0, 2), 6);
        Runs.due("pick(1, 1): it reads another value", x.pick(1, 1), CarriedBack.NOT);
        Runs.due("line(1, 1): another line", x.line(1, 1), 0);
        Runs.due("pick(2, 0)", x.pick(2, 0), CarriedBack.UNKNOWN);
        Runs.due("pick(0, 6)", x.pick(0, 6), CarriedBack.UNKNOWN);
        Runs.due("pick(0, -1)", x.pick(0, -1), CarriedBack.UNKNOWN);
        CarriedBack y = Runs.of("change;change sets 0 1;change reads 0;");
        y.cut(0);
        Runs.due("pick(0, 0): it touches nothing", y.pick(0, 0), 1);
        Runs.due("pick(0, 2)", y.pick(0, 2), CarriedBack.NOT);
        Runs.due("pick(0, 1)", y.pick(0, 1), 2);
        Runs.due("pick(0, 2)", y.pick(0, 2), 3);
        Runs.due("value(0, 0): reading leaves it", y.value(0, 0), 1);
    }

    private static void undoing() {
        Runs.about("promise 16");
        CarriedBack x = Runs.of(TrunkTest.TRUNK);
        x.cut(6);
        Runs.due("undo(0, 0): set by others since", x.undo(0, 0), CarriedBack.NOT);
        Runs.due("undo(0, 1)", x.undo(0, 1), CarriedBack.NOT);
        Runs.due("undo(0, 5)", x.undo(0, 5), 5);
        Runs.due("value(0, 1)", x.value(0, 1), 2);
        Runs.due("undo(0, 5): not in it", x.undo(0, 5), CarriedBack.NOT);
        Runs.due("undo(0, 4)", x.undo(0, 4), 4);
        Runs.due("value(0, 0)", x.value(0, 0), 3);
        Runs.due("value(0, 2)", x.value(0, 2), 4);
        Runs.due("undo(0, 1): what it reads has changed", x.undo(0, 1), 3);
        Runs.due("value(0, 1)", x.value(0, 1), 0);
        Runs.due("line(0, 1)", x.line(0, 1), 13);
        Runs.due("undo(1, 0)", x.undo(1, 0), CarriedBack.UNKNOWN);
        Runs.due("undo(-1, 0)", x.undo(-1, 0), CarriedBack.UNKNOWN);
        Runs.due("undo(0, 6)", x.undo(0, 6), CarriedBack.UNKNOWN);
        Runs.due("undo(0, -1)", x.undo(0, -1), CarriedBack.UNKNOWN);
        CarriedBack y = Runs.of("change sets 0 1,1 1;change sets 1 2;change reads 0,1;");
        y.cut(3);
        Runs.due("undo(0, 0): one slot is other", y.undo(0, 0), CarriedBack.NOT);
        Runs.due("value(0, 0)", y.value(0, 0), 1);
        Runs.due("line(0, 1)", y.line(0, 1), 7);
        Runs.due("undo(0, 1)", y.undo(0, 1), 2);
        Runs.due("undo(0, 0)", y.undo(0, 0), 1);
        Runs.due("undo(0, 2): it sets nothing", y.undo(0, 2), 0);
        Runs.due("value(0, 0)", y.value(0, 0), 0);
        // another change sets it to the same: the value is still there
        CarriedBack z = Runs.of("change sets 0 1;change sets 0 2;change sets 0 1;");
        z.cut(3);
        Runs.due("undo(0, 1)", z.undo(0, 1), CarriedBack.NOT);
        Runs.due("undo(0, 0)", z.undo(0, 0), 2);
        Runs.due("value(0, 0)", z.value(0, 0), 0);
        Runs.due("undo(0, 2): its value went with another", z.undo(0, 2), CarriedBack.NOT);
        z.cut(3);
        Runs.due("undo(1, 2): as on trunk ahead of it", z.undo(1, 2), 2);
        Runs.due("value(1, 0)", z.value(1, 0), 2);
    }

    private static void needing() {
        Runs.about("promise 17");
        CarriedBack x = Runs.of(TrunkTest.TRUNK);
        x.cut(1);
        x.cut(0);
        Runs.due("needs(0, 1)", x.needs(0, 1), 0);
        Runs.due("needs(0, 4)", x.needs(0, 4), 12);
        Runs.due("needs(0, 5)", x.needs(0, 5), 30);
        Runs.due("needs(1, 5)", x.needs(1, 5), 31);
        Runs.due("needs(1, 2)", x.needs(1, 2), 1);
        Runs.due("needs(0, 0): in it", x.needs(0, 0), CarriedBack.NONE);
        Runs.due("line(0, 1): it stays", x.line(0, 1), 1);
        Runs.due("value(0, 0): it stays", x.value(0, 0), 1);
        Runs.due("needs(2, 0)", x.needs(2, 0), CarriedBack.UNKNOWN);
        Runs.due("needs(-1, 0)", x.needs(-1, 0), CarriedBack.UNKNOWN);
        Runs.due("needs(0, 6)", x.needs(0, 6), CarriedBack.UNKNOWN);
        Runs.due("needs(0, -1)", x.needs(0, -1), CarriedBack.UNKNOWN);
        // the last one that sets it, not all that do; what does not set it is not needed
        CarriedBack y = Runs.of("change sets 0 1;change sets 1 1;change sets 0 2;change reads 0;");
        y.cut(0);
        Runs.due("needs(0, 3)", y.needs(0, 3), 5);
        y.pick(0, 0);
        Runs.due("needs(0, 3)", y.needs(0, 3), 4);
        // one that sets two of the slots is needed once
        CarriedBack w = Runs.of("change sets 0 1,1 1;change reads 0,1;");
        w.cut(0);
        Runs.due("needs(0, 1)", w.needs(0, 1), 1);
        // a value that is there already is not needed, whoever set it
        CarriedBack z = Runs.of("change sets 0 5;change sets 0 6;change sets 0 5;change sets 0 7,1 1;change reads 1;");
        z.cut(1);
        Runs.due("needs(0, 4)", z.needs(0, 4), 8);
        Runs.due("needs(0, 3)", z.needs(0, 3), 0);
        Runs.due("needs(0, 2)", z.needs(0, 2), 2);
    }

    private static void impossible() {
        Runs.about("promise 17, IMPOSSIBLE");
        CarriedBack x = Runs.of("change sets 0 5;change sets 0 6;change sets 0 5;change sets 0 7;change reads 0;");
        x.cut(0);
        x.pick(0, 0);
        Runs.due("pick(0, 3)", x.pick(0, 3), 2);
        Runs.due("needs(0, 1): what sets it is in it", x.needs(0, 1), CarriedBack.NONE);
        Runs.due("needs(0, 2): so one further back", x.needs(0, 2), CarriedBack.NONE);
        Runs.due("needs(0, 4)", x.needs(0, 4), 0);
        CarriedBack w = Runs.of("change sets 0 1;change sets 0 2;change reads 0;change sets 0 1;");
        w.cut(2);
        Runs.due("pick(0, 3)", w.pick(0, 3), 3);
        Runs.due("needs(0, 2): what sets it is in it, and would go on again", w.needs(0, 2), CarriedBack.NONE);
        CarriedBack y = Runs.of("change reads 0;change sets 0 1;");
        y.cut(0);
        y.pick(0, 1);
        Runs.due("needs(0, 0): none sets it", y.needs(0, 0), CarriedBack.NONE);
        // 3 needs 1, which sets slot 0 to another value than 3 reads
        CarriedBack z = Runs.of("change sets 0 1;change sets 0 2,1 5;change sets 0 1,2 3;change reads 0,1;");
        z.cut(1);
        Runs.due("needs(0, 3): not cleanly for all that", z.needs(0, 3), CarriedBack.NONE);
        Runs.due("needs(0, 2)", z.needs(0, 2), 2);
        Runs.due("carry(0, 3)", z.carry(0, 3), CarriedBack.NOT);
    }

    private static void carrying() {
        Runs.about("promise 18");
        CarriedBack x = Runs.of(TrunkTest.TRUNK);
        x.cut(1);
        Runs.due("carry(0, 4)", x.carry(0, 4), 3);
        Runs.due("line(0, 1)", x.line(0, 1), 29);
        Runs.due("value(0, 0)", x.value(0, 0), 5);
        Runs.due("value(0, 1)", x.value(0, 1), 0);
        Runs.due("value(0, 2)", x.value(0, 2), 6);
        Runs.due("carry(0, 4): in it", x.carry(0, 4), CarriedBack.NOT);
        Runs.due("carry(0, 1): what sets it is in it", x.carry(0, 1), CarriedBack.NOT);
        Runs.due("line(0, 1)", x.line(0, 1), 29);
        x.cut(0);
        Runs.due("carry(1, 0)", x.carry(1, 0), 1);
        Runs.due("carry(1, 5)", x.carry(1, 5), 5);
        Runs.due("strayed(1)", x.strayed(1), 0);
        Runs.due("carry(2, 0)", x.carry(2, 0), CarriedBack.UNKNOWN);
        Runs.due("carry(0, 6)", x.carry(0, 6), CarriedBack.UNKNOWN);
        Runs.due("carry(0, -1)", x.carry(0, -1), CarriedBack.UNKNOWN);
        Runs.due("carry(-1, 1)", x.carry(-1, 1), CarriedBack.UNKNOWN);
    }

    private static void apart() {
        Runs.about("promise 19");
        CarriedBack x = Runs.of(TrunkTest.TRUNK);
        x.cut(0);
        x.cut(1);
        Runs.due("apart(0, 0, 3)", x.apart(0, 0, 3), 1);
        Runs.due("apart(0, 3, 0)", x.apart(0, 3, 0), 1);
        Runs.due("apart(0, 0, 1): one way alone", x.apart(0, 0, 1), 0);
        Runs.due("apart(0, 1, 0)", x.apart(0, 1, 0), 0);
        Runs.due("apart(0, 4, 5): no way", x.apart(0, 4, 5), 0);
        Runs.due("apart(1, 1, 2): 2 sets what 1 reads", x.apart(1, 1, 2), 0);
        Runs.due("apart(1, 1, 3)", x.apart(1, 1, 3), 1);
        Runs.due("line(1, 1): it stays", x.line(1, 1), 1);
        Runs.due("value(1, 1): it stays", x.value(1, 1), 0);
        Runs.due("apart(1, 0, 3): in it", x.apart(1, 0, 3), CarriedBack.NOT);
        Runs.due("apart(1, 3, 0): in it", x.apart(1, 3, 0), CarriedBack.NOT);
        Runs.due("apart(1, 3, 3): twice", x.apart(1, 3, 3), CarriedBack.UNKNOWN);
        Runs.due("apart(1, 0, 0): twice, in it", x.apart(1, 0, 0), CarriedBack.UNKNOWN);
        Runs.due("apart(1, 0, 6)", x.apart(1, 0, 6), CarriedBack.UNKNOWN);
        Runs.due("apart(1, -1, 2)", x.apart(1, -1, 2), CarriedBack.UNKNOWN);
        Runs.due("apart(2, 1, 2)", x.apart(2, 1, 2), CarriedBack.UNKNOWN);
        CarriedBack y = Runs.of("change sets 0 1;change sets 0 1;change reads 0;change reads 0;");
        y.cut(1);
        Runs.due("apart(0, 1, 2): it sets what is there", y.apart(0, 1, 2), 1);
        Runs.due("apart(0, 2, 3): both read it", y.apart(0, 2, 3), 1);
    }

    private static void costs() {
        Runs.about("promise 20");
        CarriedBack x = Runs.of(TrunkTest.TRUNK);
        x.cut(1);
        x.cut(4);
        Runs.due("cost(0, 0)", x.cost(0, 0), 0);
        Runs.due("cost(0, 1)", x.cost(0, 1), 2);
        Runs.due("cost(0, 4): not in the line", x.cost(0, 4), CarriedBack.NONE);
        Runs.due("cost(1, 4)", x.cost(1, 4), 16);
        Runs.due("cost(1, 2): it never goes", x.cost(1, 2), CarriedBack.NONE);
        Runs.due("cost(1, 1): gone already", x.cost(1, 1), CarriedBack.NONE);
        Runs.due("cost(1, 6)", x.cost(1, 6), CarriedBack.NONE);
        Runs.due("cost(0, 8)", x.cost(0, 8), CarriedBack.UNKNOWN);
        Runs.due("cost(0, -1)", x.cost(0, -1), CarriedBack.UNKNOWN);
        Runs.due("cost(2, 0)", x.cost(2, 0), CarriedBack.UNKNOWN);
        Runs.due("cost(-1, 0)", x.cost(-1, 0), CarriedBack.UNKNOWN);
        CarriedBack y = Runs.of("change sets 0 1;change sets 1 1;change sets 0 2,1 2;fault 4 from 0 till 2;"
            + "change sets 2 1;change reads 2;fault 5 from 0 till 4;");
        y.cut(1);
        Runs.due("cost(0, 1): with its needs", y.cost(0, 1), 6);
        Runs.due("cost(0, 2)", y.cost(0, 2), 24);
        Runs.due("cost(0, 3): of both", y.cost(0, 3), 30);
        // the two fixes do not go on together
        CarriedBack z = Runs.of("change sets 0 1;change sets 0 2;fault 4 from 0 till 1;change sets 0 1;"
            + "change sets 1 1 reads 0;fault 5 from 0 till 3;");
        z.cut(1);
        Runs.due("cost(0, 1)", z.cost(0, 1), 2);
        Runs.due("cost(0, 2)", z.cost(0, 2), 8);
        Runs.due("cost(0, 3): not together", z.cost(0, 3), CarriedBack.NONE);
        Runs.due("best(0, 24, 99, 0)", z.best(0, 24, 99, 0), 2);
        // the fix is IMPOSSIBLE
        CarriedBack v = Runs.of("change sets 0 5;change sets 0 6;change sets 0 5;change sets 0 7;"
            + "fault 9 from 0 till 1;");
        v.cut(1);
        Runs.due("cost(0, 1)", v.cost(0, 1), 2);
        v.pick(0, 3);
        Runs.due("cost(0, 1): IMPOSSIBLE", v.cost(0, 1), CarriedBack.NONE);
        Runs.due("best(0, 24, 99, 1)", v.best(0, 24, 99, 1), 0);
    }

    private static void bestFixes() {
        Runs.about("promise 21");
        CarriedBack x = Runs.of(TrunkTest.TRUNK);
        x.cut(1);
        x.cut(4);
        int[] want = {1, 5, 2};
        for (int what = 0; what < 3; what++) {
            Runs.due("best(0, 1, 3, " + what + ")", x.best(0, 1, 3, what), want[what]);
            Runs.due("best(0, 0, 9, " + what + ")", x.best(0, 0, 9, what), 0);
            Runs.due("best(0, 1, 2, " + what + ")", x.best(0, 1, 2, what), 0);
        }
        Runs.due("best(1, 1, 2, 0)", x.best(1, 1, 2, 0), 4);
        Runs.due("best(1, 1, 1, 0)", x.best(1, 1, 1, 0), 0);
        Runs.due("best(1, 24, 99, 1)", x.best(1, 24, 99, 1), 9);
        Runs.due("best(2, 0, 0, 0)", x.best(2, 0, 0, 0), CarriedBack.UNKNOWN);
        Runs.due("best(-1, 0, 0, 9)", x.best(-1, 0, 0, 9), CarriedBack.UNKNOWN);
        Runs.due("best(0, -1, 0, 0)", x.best(0, -1, 0, 0), CarriedBack.OUTSIDE);
        Runs.due("best(0, 25, 0, 0)", x.best(0, 25, 0, 0), CarriedBack.OUTSIDE);
        Runs.due("best(0, 0, -1, 0)", x.best(0, 0, -1, 0), CarriedBack.OUTSIDE);
        Runs.due("best(0, 0, 100, 0)", x.best(0, 0, 100, 0), CarriedBack.OUTSIDE);
        Runs.due("best(0, 0, 0, 3)", x.best(0, 0, 0, 3), CarriedBack.OUTSIDE);
        Runs.due("best(0, 0, 0, -1)", x.best(0, 0, 0, -1), CarriedBack.OUTSIDE);
        // three fixes, apart: weights 4, 5, 3 with risks 1, 9, 2
        CarriedBack y = Runs.of("change;change risk 1;change risk 9;change risk 2;fault 4 from 0 till 1;"
            + "fault 5 from 0 till 2;fault 3 from 0 till 3;");
        y.cut(1);
        Runs.due("best(0, 3, 99, 0)", y.best(0, 3, 99, 0), 7);
        Runs.due("best(0, 2, 99, 0)", y.best(0, 2, 99, 0), 3);
        Runs.due("best(0, 2, 9, 0)", y.best(0, 2, 9, 0), 5);
        Runs.due("best(0, 2, 9, 1)", y.best(0, 2, 9, 1), 7);
        Runs.due("best(0, 2, 9, 2)", y.best(0, 2, 9, 2), 10);
        Runs.due("best(0, 1, 9, 0)", y.best(0, 1, 9, 0), 2);
        Runs.due("best(0, 1, 8, 0)", y.best(0, 1, 8, 0), 1);
        Runs.due("best(0, 3, 11, 0)", y.best(0, 3, 11, 0), 3);
        Runs.due("best(0, 3, 12, 0)", y.best(0, 3, 12, 0), 7);
        Runs.due("best(0, 3, 0, 0)", y.best(0, 3, 0, 0), 0);
    }

    private static void bestOfLike() {
        Runs.about("promise 21, of like ones");
        // fault 0 goes with 2 (which needs 1), fault 1 with 3: like weights, fewer changes
        CarriedBack x = Runs.of("change sets 0 1;change sets 1 1;change reads 1;change;fault 5 from 0 till 2;"
            + "fault 5 from 0 till 3;fault 5 from 0 till 3;");
        x.cut(1);
        Runs.due("best(0, 1, 9, 0): both go with one change", x.best(0, 1, 9, 0), 6);
        Runs.due("best(0, 2, 9, 0)", x.best(0, 2, 9, 0), 6);
        Runs.due("best(0, 3, 9, 0)", x.best(0, 3, 9, 0), 7);
        CarriedBack y = Runs.of("change sets 0 1;change sets 1 1;change reads 1;change;fault 5 from 0 till 2;"
            + "fault 5 from 0 till 3;");
        y.cut(1);
        Runs.due("best(0, 2, 9, 0): the fewest changes", y.best(0, 2, 9, 0), 2);
        Runs.due("best(0, 2, 9, 2)", y.best(0, 2, 9, 2), 8);
        CarriedBack z = Runs.of("change;change;change;fault 2 from 0 till 2;fault 5 from 0 till 2;"
            + "fault 7 from 0 till 1;");
        z.cut(1);
        Runs.due("best(0, 1, 9, 0): the least set", z.best(0, 1, 9, 0), 3);
        Runs.due("best(0, 1, 9, 2)", z.best(0, 1, 9, 2), 4);
        // all ten faults at once
        StringBuilder text = new StringBuilder("change;".repeat(11));
        for (int k = 1; k <= 10; k++) {
            text.append("fault ").append(k).append(" from 0 till ").append(k).append(';');
        }
        CarriedBack w = Runs.of(text.toString());
        w.cut(1);
        Runs.due("best(0, 24, 99, 0)", w.best(0, 24, 99, 0), 1023);
        Runs.due("best(0, 24, 99, 1)", w.best(0, 24, 99, 1), 55);
        Runs.due("best(0, 24, 99, 2)", w.best(0, 24, 99, 2), 2046);
        Runs.due("best(0, 3, 99, 0)", w.best(0, 3, 99, 0), 896);
    }

    private static void laterCuts() {
        Runs.about("promise 22");
        CarriedBack x = Runs.of(TrunkTest.TRUNK);
        x.cut(1);
        // weights of first ones: 0, 5, 0, 7, 16, 7, 7
        int[] want = {0, 5, -2, -11, -2, -2, -2};
        for (int n = 0; n < want.length; n++) {
            Runs.due("later(0, " + n + ")", x.later(0, n), want[n]);
        }
        Runs.due("later(0, 24): none above all", x.later(0, 24), -2);
        x.pick(0, 1);
        Runs.due("later(0, 0): as it is", x.later(0, 0), -5);
        Runs.due("later(0, 1)", x.later(0, 1), 0);
        Runs.due("later(0, 3)", x.later(0, 3), -16);
        Runs.due("later(0, -1)", x.later(0, -1), CarriedBack.OUTSIDE);
        Runs.due("later(0, 25)", x.later(0, 25), CarriedBack.OUTSIDE);
        Runs.due("later(1, 0)", x.later(1, 0), CarriedBack.UNKNOWN);
        Runs.due("later(1, 25)", x.later(1, 25), CarriedBack.UNKNOWN);
        Runs.due("later(-1, 0)", x.later(-1, 0), CarriedBack.UNKNOWN);
    }
}
