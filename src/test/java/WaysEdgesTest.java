/**
 * The fourth part of the terms and promises 31 to 41 at their edges. What a test is about is the document's
 * sentence; beside what is just inside stands what is just outside.
 */
public final class WaysEdgesTest {
    private static final int NONE = CarriedBack.NONE;
    private static final int NOT = CarriedBack.NOT;
    private static final int OUTSIDE = CarriedBack.OUTSIDE;
    private static final int UNKNOWN = CarriedBack.UNKNOWN;
    private static final int ALL = 0xffffff;
    private static final String FREE_ONES = "change;".repeat(24);

    private WaysEdgesTest() {
    }

    public static void main(String[] args) {
        readyOfNoneAndAll();
        readyByOne();
        inReachWithTheLeast();
        ordersOfNoneToEight();
        ordersOfAChain();
        lesserAhead();
        orderBesideTheLast();
        ordersAreRefused();
        whenceOfEachSlot();
        whenceTheLast();
        strayedOfEachSlot();
        strayedOfAnEmptyOne();
        bestCutOfBounds();
        bestCutOfLikeOnes();
        upToALaterOne();
        upToNoOtherFault();
        upWithLeastToll();
        spansOfEachRow();
        spansOfOtherLines();
        freezes();
        onlyLines();
        riskOrLess();
        weightOrMore();
        allRulesAtOnce();
        noneTold();
        imagesOfNoneAndAll();
        imagesKeepTrains();
        imagesStay();
        imagesAreTwo();
        whatImagesDoNotKeep();
        Runs.close();
    }

    // ---- ready, in reach

    private static void readyOfNoneAndAll() {
        Runs.about("terms 4: READY are CHANGES that are not in it and go on CLEANLY: none, and all");
        CarriedBack x = Runs.of(FREE_ONES);
        x.cut(0);
        x.cut(23);
        x.cut(24);
        int[] want = {ALL, 1 << 23, 0};
        for (int l = 0; l < 3; l++) {
            Runs.due("ready(" + l + ", false)", x.ready(l, false), want[l]);
            Runs.due("ready(" + l + ", true)", x.ready(l, true), want[l]);
        }
        Runs.due("ready(3, false)", x.ready(3, false), UNKNOWN);
        CarriedBack y = new CarriedBack();
        y.cut(0);
        Runs.due("ready(0, false) of an empty trunk", y.ready(0, false), 0);
        Runs.due("ready(0, true) of an empty trunk", y.ready(0, true), 0);
        // there are some, and none goes on
        CarriedBack z = Runs.of("change reads 0;change sets 0 1;change sets 0 2 reads 1;change sets 1 1;");
        z.cut(0);
        z.pick(0, 1);
        z.pick(0, 3);
        Runs.due("ready(0, false)", z.ready(0, false), 0);
        Runs.due("ready(0, true)", z.ready(0, true), 0);
    }

    private static void readyByOne() {
        Runs.about("terms 4: IN REACH: those that could be in it, if one went on, as long as some is READY");
        CarriedBack x = Runs.of(LinesEdgesTest.chain());
        for (int n : new int[] {0, 1, 22, 23}) {
            x.cut(n);
        }
        for (int l = 0; l < 4; l++) {
            int n = x.line(l, 0);
            Runs.due("ready(" + l + ", false)", x.ready(l, false), 1 << n);
            Runs.due("ready(" + l + ", true)", x.ready(l, true), ALL & ~((1 << n) - 1));
            Runs.due("line(" + l + ", 1) is as it was", x.line(l, 1), (1 << n) - 1);
            Runs.due("value(" + l + ", 0) is as it was", x.value(l, 0), n);
        }
    }

    private static void inReachWithTheLeast() {
        Runs.about("terms 4: IN REACH: with the least of these each time");
        // with 1 first 0 would not come
        CarriedBack x = Runs.of("change reads 0;change sets 0 1;change reads 0;");
        x.cut(0);
        Runs.due("ready(0, false)", x.ready(0, false), 3);
        Runs.due("ready(0, true)", x.ready(0, true), 7);
        // each makes way for the next one alone
        CarriedBack y = Runs.of("change sets 0 1;change sets 0 2;change sets 0 1,1 1;change sets 0 3,1 2;"
            + "change reads 1;");
        y.cut(1);
        Runs.due("ready(0, false)", y.ready(0, false), 2);
        Runs.due("ready(0, true)", y.ready(0, true), 30);
        // a lesser one becomes ready behind a greater one: it is next
        CarriedBack z = Runs.of("change sets 0 1;change reads 0;change sets 0 2;change sets 0 1;change sets 0 4;");
        z.cut(0);
        z.pick(0, 0);
        z.pick(0, 2);
        Runs.due("ready(0, false)", z.ready(0, false), 8);
        Runs.due("ready(0, true): 3, then 1 ahead of 4", z.ready(0, true), 26);
        // 1, 2, 3 leave slot 0 as 4 would have it; with 4 first these would not come
        CarriedBack w = Runs.of("change sets 0 1;change sets 0 2;change sets 0 3;change sets 0 1;change sets 0 5;"
            + "change reads 1;");
        w.cut(1);
        Runs.due("ready(0, false)", w.ready(0, false), 2 | 16 | 32);
        Runs.due("ready(0, true)", w.ready(0, true), 62);
        // with 5 first 4 would not come
        CarriedBack v = Runs.of("change sets 0 1;change sets 0 2;change sets 0 1;change sets 0 3,1 1;"
            + "change reads 0,1;change sets 0 9;");
        v.cut(1);
        v.pick(0, 3);
        Runs.due("ready(0, true)", v.ready(0, true), 16 | 32);
    }

    // ---- orders

    private static void ordersOfNoneToEight() {
        Runs.about("terms 4: ORDERS of a SET of CHANGES (8 at most). Promise 32: (1 of none), NOT: more than 8");
        CarriedBack x = Runs.of(FREE_ONES);
        x.cut(0);
        int ways = 1;
        for (int n = 0; n <= 8; n++) {
            ways *= Math.max(n, 1);
            Runs.due("orders of the first " + n, x.orders(0, (1 << n) - 1), ways);
            int last = ALL & ~((1 << 24 - n) - 1);
            Runs.due("orders of the last " + n, x.orders(0, last), ways);
            Runs.due("order(.., 0, 0) of the last " + n, x.order(0, last, 0, 0), n == 0 ? NONE : 24 - n);
        }
        for (int n = 9; n <= 24; n++) {
            Runs.due("orders of the first " + n, x.orders(0, (1 << n) - 1), NOT);
            Runs.due("order of the first " + n, x.order(0, (1 << n) - 1, 0, 0), NOT);
        }
        CarriedBack y = new CarriedBack();
        y.cut(0);
        Runs.due("orders of none of none", y.orders(0, 0), 1);
        Runs.due("order of none of none", y.order(0, 0, 0, 0), NONE);
        Runs.due("orders of one of none", y.orders(0, 1), UNKNOWN);
    }

    private static void ordersOfAChain() {
        Runs.about("terms 4: rows of all of them one behind the other, each PICKED CLEANLY");
        CarriedBack x = Runs.of(LinesEdgesTest.chain());
        x.cut(0);
        x.cut(16);
        Runs.due("orders(0, 255)", x.orders(0, 255), 1);
        Runs.due("orders(1, the last eight)", x.orders(1, 255 << 16), 1);
        for (int j = 0; j < 8; j++) {
            Runs.due("order(0, 255, 0, " + j + ")", x.order(0, 255, 0, j), j);
            Runs.due("order(1, the last eight, 0, " + j + ")", x.order(1, 255 << 16, 0, j), 16 + j);
            Runs.due("orders(0, without " + j + ")", x.orders(0, 255 & ~(1 << j)), j == 7 ? 1 : 0);
            Runs.due("order(0, without " + j + ", 0, 0)", x.order(0, 255 & ~(1 << j), 0, 0), j == 7 ? 0 : NONE);
        }
        Runs.due("order(0, 255, 1, 0)", x.order(0, 255, 1, 0), NONE);
        Runs.due("order(0, 255, 0, 8)", x.order(0, 255, 0, 8), NONE);
    }

    private static void lesserAhead() {
        Runs.about("terms 4: held against one another CHANGE by CHANGE, the lesser ahead");
        CarriedBack x = Runs.of(FREE_ONES);
        x.cut(0);
        int set = 1 << 2 | 1 << 10 | 1 << 23;
        int[][] rows = {{2, 10, 23}, {2, 23, 10}, {10, 2, 23}, {10, 23, 2}, {23, 2, 10}, {23, 10, 2}};
        for (int i = 0; i < 6; i++) {
            for (int j = 0; j < 3; j++) {
                Runs.due("order(0, {2, 10, 23}, " + i + ", " + j + ")", x.order(0, set, i, j), rows[i][j]);
            }
        }
        // 1 has to be ahead of 2, 3 has to be ahead of 4
        CarriedBack y = Runs.of("change;change sets 0 1;change reads 0;change sets 1 1;change reads 1;");
        y.cut(1);
        int[][] partly = {{1, 2, 3, 4}, {1, 3, 2, 4}, {1, 3, 4, 2}, {3, 1, 2, 4}, {3, 1, 4, 2}, {3, 4, 1, 2}};
        Runs.due("orders(0, 30)", y.orders(0, 30), 6);
        for (int i = 0; i < 6; i++) {
            for (int j = 0; j < 4; j++) {
                Runs.due("order(0, 30, " + i + ", " + j + ")", y.order(0, 30, i, j), partly[i][j]);
            }
        }
        Runs.due("order(0, 30, 6, 0)", y.order(0, 30, 6, 0), NONE);
    }

    private static void orderBesideTheLast() {
        Runs.about("promise 33: CHANGE j of the i-th ORDER; NONE: there is none such; OUTSIDE (i below 0)");
        CarriedBack x = Runs.of(FREE_ONES);
        x.cut(0);
        int last = 40319;
        Runs.due("order(0, 255, 40319, 0)", x.order(0, 255, last, 0), 7);
        Runs.due("order(0, 255, 40319, 7)", x.order(0, 255, last, 7), 0);
        Runs.due("order(0, 255, 40319, 8)", x.order(0, 255, last, 8), NONE);
        Runs.due("order(0, 255, 40320, 0)", x.order(0, 255, last + 1, 0), NONE);
        Runs.due("order(0, 255, 40320, 8)", x.order(0, 255, last + 1, 8), NONE);
        Runs.due("order(0, 255, max, 0)", x.order(0, 255, Integer.MAX_VALUE, 0), NONE);
        Runs.due("order(0, 255, 0, max)", x.order(0, 255, 0, Integer.MAX_VALUE), NONE);
        Runs.due("order(0, 255, 0, -1)", x.order(0, 255, 0, -1), NONE);
        Runs.due("order(0, 255, 0, min)", x.order(0, 255, 0, Integer.MIN_VALUE), NONE);
        Runs.due("order(0, 255, -1, 0)", x.order(0, 255, -1, 0), OUTSIDE);
        Runs.due("order(0, 255, -1, -1)", x.order(0, 255, -1, -1), OUTSIDE);
        Runs.due("order(0, 255, min, 0)", x.order(0, 255, Integer.MIN_VALUE, 0), OUTSIDE);
        Runs.due("order(0, 0, 0, 0): of none there is one, of no change", x.order(0, 0, 0, 0), NONE);
        Runs.due("order(0, 0, 1, 0)", x.order(0, 0, 1, 0), NONE);
        Runs.due("order(0, 0, -1, 0)", x.order(0, 0, -1, 0), OUTSIDE);
        Runs.due("order(0, 1, 0, 0)", x.order(0, 1, 0, 0), 0);
        Runs.due("order(0, 1, 1, 0)", x.order(0, 1, 1, 0), NONE);
        Runs.due("order(0, 1, 0, 1)", x.order(0, 1, 0, 1), NONE);
        Runs.due("line(0, 1) is as it was", x.line(0, 1), 0);
    }

    private static void ordersAreRefused() {
        Runs.about("promise 32: UNKNOWN (bits), NOT: one is in it");
        CarriedBack x = Runs.of("change;".repeat(9));
        x.cut(1);
        Runs.due("orders(0, eight that are not in it)", x.orders(0, 510), 40320);
        Runs.due("orders(0, the one that is in it)", x.orders(0, 1), NOT);
        Runs.due("orders(0, it and another one)", x.orders(0, 3), NOT);
        Runs.due("orders(0, all)", x.orders(0, 511), NOT);
        Runs.due("orders(0, 512)", x.orders(0, 512), UNKNOWN);
        Runs.due("orders(0, 513)", x.orders(0, 513), UNKNOWN);
        Runs.due("orders(0, 1023)", x.orders(0, 1023), UNKNOWN);
        Runs.due("undo(0, 0)", x.undo(0, 0), 0);
        Runs.due("orders(0, 1): not in it any more", x.orders(0, 1), 1);
        CarriedBack y = Runs.of(FREE_ONES);
        y.cut(0);
        Runs.due("orders(0, 1 << 23)", y.orders(0, 1 << 23), 1);
        Runs.due("orders(0, 1 << 24)", y.orders(0, 1 << 24), UNKNOWN);
        Runs.due("orders(0, 1 << 31)", y.orders(0, 1 << 31), UNKNOWN);
        Runs.due("orders(0, -1)", y.orders(0, -1), UNKNOWN);
    }

    // ---- whence, strayed

    private static void whenceOfEachSlot() {
        Runs.about("terms 4: WHENCE: the last CHANGE ON TRUNK that is in the LINE and sets it to that; NONE: there is"
            + " none");
        for (int s = 0; s <= 15; s++) {
            CarriedBack x = Runs.of("change sets " + s + " 1;change reads " + s + ";change sets " + s + " 99;");
            for (int l = 0; l < 4; l++) {
                x.cut(l);
            }
            int[] want = {NONE, 0, 0, 2};
            for (int l = 0; l < 4; l++) {
                Runs.due("whence(" + l + ", " + s + ")", x.whence(l, s), want[l]);
                Runs.due("whence(" + l + ", another)", x.whence(l, (s + 1) % 16), NONE);
            }
            x.undo(1, 0);
            Runs.due("whence(1, " + s + "), undone", x.whence(1, s), NONE);
        }
        CarriedBack y = Runs.of(LinesEdgesTest.chain());
        y.cut(24);
        Runs.due("whence(0, 0) of 24", y.whence(0, 0), 23);
    }

    private static void whenceTheLast() {
        Runs.about("terms 4: WHENCE: the last one, that is in the LINE, and sets it to that");
        CarriedBack x = Runs.of("change sets 0 1;change sets 0 2;change sets 0 1;change sets 0 2;change sets 0 1;");
        x.cut(5);
        Runs.due("whence(0, 0)", x.whence(0, 0), 4);
        x.undo(0, 4);
        Runs.due("whence(0, 0)", x.whence(0, 0), 3);
        x.undo(0, 1);
        Runs.due("whence(0, 0): 3 is in it, and sets it to another value", x.whence(0, 0), 2);
        x.cut(1);
        x.pick(1, 3);
        Runs.due("whence(1, 0): 1 is not in it", x.whence(1, 0), 3);
        x.pick(1, 4);
        Runs.due("whence(1, 0)", x.whence(1, 0), 4);
        x.undo(1, 4);
        x.undo(1, 3);
        Runs.due("whence(1, 0)", x.whence(1, 0), 0);
    }

    private static void strayedOfEachSlot() {
        Runs.about("terms 4: STRAYED are SLOTS that do not have what they have ON TRUNK behind its last CHANGE of all"
            + " that are in the LINE");
        for (int s = 0; s <= 15; s++) {
            int other = (s + 1) % 16;
            CarriedBack x = Runs.of("change sets " + s + " 1;change sets " + other + " 1;change;change sets " + s
                + " 2;");
            x.cut(0);
            Runs.due("pick(0, 1)", x.pick(0, 1), 1);
            Runs.due("strayed(0)", x.strayed(0), 1 << s);
            x.pick(0, 2);
            Runs.due("strayed(0): behind the last one that is in it", x.strayed(0), 1 << s);
            x.pick(0, 0);
            Runs.due("strayed(0)", x.strayed(0), 0);
            x.pick(0, 3);
            Runs.due("strayed(0)", x.strayed(0), 0);
            x.undo(0, 1);
            Runs.due("strayed(0)", x.strayed(0), 1 << other);
        }
        CarriedBack y = Runs.of("change sets 0 1,1 1,2 1,3 1,4 1,5 1,6 1,7 1,8 1,9 1,10 1,11 1,12 1,13 1,14 1,15 1;"
            + "change;");
        y.cut(0);
        y.pick(0, 1);
        Runs.due("strayed(0), all of them", y.strayed(0), 0xffff);
    }

    private static void strayedOfAnEmptyOne() {
        Runs.about("terms 4: STRAYED (of an empty one: what they have at first)");
        CarriedBack x = Runs.of("change sets 0 1;change sets 15 2;");
        x.cut(0);
        x.cut(2);
        Runs.due("strayed(0), cut behind none", x.strayed(0), 0);
        x.undo(1, 1);
        Runs.due("strayed(1)", x.strayed(1), 0);
        x.undo(1, 0);
        Runs.due("line(1, 1)", x.line(1, 1), 0);
        Runs.due("strayed(1), emptied", x.strayed(1), 0);
        x.pick(1, 0);
        Runs.due("strayed(1), the first one alone", x.strayed(1), 0);
        CarriedBack y = new CarriedBack();
        y.cut(0);
        Runs.due("strayed(0) of an empty trunk", y.strayed(0), 0);
    }

    // ---- the best cut

    private static void bestCutOfBounds() {
        Runs.about("promise 36: OUTSIDE (a, b 0 .. how many CHANGES, b not less)");
        CarriedBack x = Runs.of(FREE_ONES + "fault 5 from 0 till 1;fault 7 from 22 till 23;");
        for (int n = 0; n <= 24; n++) {
            int weight = n == 1 ? 5 : n == 23 ? 7 : 0;
            Runs.due("bestCut(" + n + ", " + n + ", 0)", x.bestCut(n, n, 0), n);
            Runs.due("bestCut(" + n + ", " + n + ", 1)", x.bestCut(n, n, 1), weight);
            Runs.due("bestCut(0, " + n + ", 0)", x.bestCut(0, n, 0), weight == 0 ? n : n - 1);
            Runs.due("bestCut(" + n + ", 24, 0)", x.bestCut(n, 24, 0), 24);
        }
        Runs.due("bestCut(25, 25, 0)", x.bestCut(25, 25, 0), OUTSIDE);
        Runs.due("bestCut(24, 25, 0)", x.bestCut(24, 25, 0), OUTSIDE);
        Runs.due("bestCut(24, 23, 0)", x.bestCut(24, 23, 0), OUTSIDE);
        Runs.due("bestCut(-1, 0, 0)", x.bestCut(-1, 0, 0), OUTSIDE);
        Runs.due("bestCut(0, -1, 0)", x.bestCut(0, -1, 0), OUTSIDE);
        Runs.due("bestCut(1, 0, 0)", x.bestCut(1, 0, 0), OUTSIDE);
        Runs.due("bestCut(0, 24, 2)", x.bestCut(0, 24, 2), OUTSIDE);
        Runs.due("bestCut(0, 24, -1)", x.bestCut(0, 24, -1), OUTSIDE);
        CarriedBack y = new CarriedBack();
        Runs.due("bestCut(0, 0, 0) of an empty trunk", y.bestCut(0, 0, 0), 0);
        Runs.due("bestCut(0, 0, 1) of an empty trunk", y.bestCut(0, 0, 1), 0);
        Runs.due("bestCut(0, 1, 0) of an empty trunk", y.bestCut(0, 1, 0), OUTSIDE);
    }

    private static void bestCutOfLikeOnes() {
        Runs.about("terms 4: THE BEST CUT: where the weight of FAULTS is least; of like ones the most CHANGES");
        // weights behind 0 .. 6: 0, 3, 3, 2, 5, 2, 4
        CarriedBack x = Runs.of("change;change;change;change;change;change;fault 3 from 0 till 2;fault 2 from 2;"
            + "fault 3 from 3 till 4;fault 2 from 5;");
        int[] weights = {0, 3, 3, 2, 5, 2, 4};
        for (int a = 0; a <= 6; a++) {
            for (int b = a; b <= 6; b++) {
                int best = b;
                for (int n = b; n >= a; n--) {
                    best = weights[n] < weights[best] ? n : best;
                }
                Runs.due("bestCut(" + a + ", " + b + ", 0)", x.bestCut(a, b, 0), best);
                Runs.due("bestCut(" + a + ", " + b + ", 1)", x.bestCut(a, b, 1), weights[best]);
            }
        }
        CarriedBack y = Runs.of("change;" + "fault 99 from 0;".repeat(10));
        Runs.due("bestCut(1, 1, 1), all that there may be", y.bestCut(1, 1, 1), 990);
        Runs.due("bestCut(0, 1, 0)", y.bestCut(0, 1, 0), 0);
    }

    // ---- ways up, spans

    private static void upToALaterOne() {
        Runs.about("terms 4: A WAY UP from a RELEASE that is not FREE of a FAULT: a RELEASE made later that is FREE of"
            + " it. NONE: there is none. NOT: it is FREE");
        String text = "change risk 1;change risk 2;fault 7 from 0 till 1;";
        for (int length = 1; length <= 5; length++) {
            for (int number = 0; number < 1 << length; number++) {
                String signs = ReleasesEdgesTest.signs(length, number);
                CarriedBack x = Runs.of(text);
                x.cut(1);
                ReleasesEdgesTest.row(x, 0, signs, 0);
                for (int r = 0; r < length; r++) {
                    int q = signs.indexOf('F', r);
                    boolean free = signs.charAt(r) == 'F';
                    Runs.due("up(" + r + ", 0, 0) of " + signs, x.up(r, 0, 0), free ? NOT : q);
                    Runs.due("up(" + r + ", 0, 1) of " + signs, x.up(r, 0, 1), free ? NOT : q < 0 ? NONE : 2);
                    Runs.due("up(" + r + ", 0, 2) of " + signs, x.up(r, 0, 2), OUTSIDE);
                }
                Runs.due("up(" + length + ", 0, 0) of " + signs, x.up(length, 0, 0), UNKNOWN);
            }
        }
        // the first of twenty, the last of twenty, of another line
        CarriedBack y = Runs.of(text);
        y.cut(1);
        y.cut(0);
        for (int r = 0; r < 19; r++) {
            y.release(0, 0);
        }
        Runs.due("up(0, 0, 0)", y.up(0, 0, 0), NONE);
        Runs.due("up(0, 0, 1)", y.up(0, 0, 1), NONE);
        y.release(1, 0);
        Runs.due("up(0, 0, 0)", y.up(0, 0, 0), 19);
        Runs.due("up(0, 0, 1)", y.up(0, 0, 1), 1);
        Runs.due("up(18, 0, 0)", y.up(18, 0, 0), 19);
        Runs.due("up(19, 0, 0)", y.up(19, 0, 0), NOT);
    }

    private static void upToNoOtherFault() {
        Runs.about("terms 4: A WAY UP: and has none that the former had not");
        // 1 takes away fault 0 and brings fault 1; 2 takes away fault 1
        CarriedBack x = Runs.of("change;change;change;fault 1 from 0 till 1;fault 1 from 1 till 2;fault 1 from 0;");
        x.cut(1);
        x.release(0, 0);
        x.pick(0, 1);
        x.release(0, 1);
        Runs.due("up(0, 0, 0): it has another fault", x.up(0, 0, 0), NONE);
        Runs.due("up(0, 0, 1)", x.up(0, 0, 1), NONE);
        x.pick(0, 2);
        x.release(0, 2);
        Runs.due("up(0, 0, 0): one that stays is none other", x.up(0, 0, 0), 2);
        Runs.due("up(0, 2, 0): it stays", x.up(0, 2, 0), NONE);
        Runs.due("up(1, 1, 0)", x.up(1, 1, 0), 2);
        x.undo(0, 0);
        x.release(0, 3);
        Runs.due("up(0, 2, 0): all are gone", x.up(0, 2, 0), 3);
    }

    private static void upWithLeastToll() {
        Runs.about("terms 4: TOLL: RISKS of CHANGES that came and that went, together; the least TOLL, of like ones"
            + " the least RELEASE");
        CarriedBack x = Runs.of("change risk 5;change risk 4;change risk 1;change risk 9;change;"
            + "fault 1 from 0 till 1;fault 1 from 0 till 3;");
        x.cut(1);
        x.cut(0);
        x.release(0, 0);
        x.pick(0, 3);
        x.release(0, 0);
        Runs.due("up(0, 1, 1): what came", x.up(0, 1, 1), 9);
        x.release(1, 0);
        Runs.due("up(0, 1, 0): what went is less", x.up(0, 1, 0), 2);
        Runs.due("up(0, 1, 1)", x.up(0, 1, 1), 5);
        x.pick(1, 1);
        x.release(1, 0);
        Runs.due("up(0, 0, 0): what came and what went is more", x.up(0, 0, 0), 2);
        Runs.due("up(1, 0, 1): 0 and 3 went", x.up(1, 0, 1), 14);
        x.pick(0, 1);
        x.undo(0, 3);
        x.release(0, 0);
        Runs.due("up(0, 0, 0): less yet", x.up(0, 0, 0), 4);
        Runs.due("up(0, 0, 1)", x.up(0, 0, 1), 4);
        x.release(0, 0);
        x.pick(0, 4);
        x.release(0, 0);
        Runs.due("up(0, 0, 0): the least of like ones", x.up(0, 0, 0), 4);
        x.pick(0, 2);
        x.release(0, 0);
        Runs.due("up(0, 0, 0): one more is no less", x.up(0, 0, 0), 4);
        Runs.about("terms 4: TOLL: none, and the greatest");
        CarriedBack y = Runs.of("change;change;fault 1 from 0 till 1;" + "change risk 9;".repeat(22));
        y.cut(1);
        y.cut(24);
        y.release(0, 0);
        y.release(1, 0);
        Runs.due("up(0, 0, 1)", y.up(0, 0, 1), 198);
        y.pick(0, 1);
        y.release(0, 0);
        Runs.due("up(0, 0, 1)", y.up(0, 0, 1), 0);
        Runs.due("up(0, 0, 0)", y.up(0, 0, 0), 2);
    }

    private static void spansOfEachRow() {
        Runs.about("terms 4: SPANS: RELEASES of a LINE in order are parted in rows side by side that are all FREE, or"
            + " all not: how many of the latter; the first RELEASE of the i-th of them, the last");
        for (int length = 0; length <= 5; length++) {
            for (int number = 0; number < 1 << length; number++) {
                String signs = ReleasesEdgesTest.signs(length, number);
                CarriedBack x = Runs.of("change;change;fault 7 from 0 till 1;");
                x.cut(1);
                ReleasesEdgesTest.row(x, 0, signs, 1);
                int many = 0;
                int at = signs.indexOf('N');
                while (at >= 0) {
                    int end = signs.indexOf('F', at) < 0 ? length : signs.indexOf('F', at);
                    Runs.due("spans(0, 0, " + many + ", 0) of " + signs, x.spans(0, 0, many, 0), at);
                    Runs.due("spans(0, 0, " + many + ", 1) of " + signs, x.spans(0, 0, many, 1), end - 1);
                    many++;
                    at = signs.indexOf('N', end);
                }
                Runs.due("spans(0, 0, -1, 0) of " + signs, x.spans(0, 0, -1, 0), many);
                Runs.due("spans(0, 0, -1, 1) of " + signs, x.spans(0, 0, -1, 1), many);
                for (int what = 0; what <= 1; what++) {
                    Runs.due("spans behind the last of " + signs, x.spans(0, 0, many, what), NONE);
                    Runs.due("spans, max, of " + signs, x.spans(0, 0, Integer.MAX_VALUE, what), NONE);
                    Runs.due("spans, -2, of " + signs, x.spans(0, 0, -2, what), NONE);
                    Runs.due("spans, min, of " + signs, x.spans(0, 0, Integer.MIN_VALUE, what), NONE);
                }
                Runs.due("spans(0, 0, -1, 2) of " + signs, x.spans(0, 0, -1, 2), OUTSIDE);
                Runs.due("spans(0, 0, 0, -1) of " + signs, x.spans(0, 0, 0, -1), OUTSIDE);
            }
        }
        CarriedBack y = Runs.of("change;change;fault 7 from 0 till 1;");
        y.cut(1);
        ReleasesEdgesTest.row(y, 0, "NF".repeat(10), 1);
        Runs.due("spans(0, 0, -1, 0) of twenty", y.spans(0, 0, -1, 0), 10);
        Runs.due("spans(0, 0, 9, 1) of twenty", y.spans(0, 0, 9, 1), 18);
        Runs.due("spans(0, 0, 10, 0) of twenty", y.spans(0, 0, 10, 0), NONE);
    }

    private static void spansOfOtherLines() {
        Runs.about("terms 4: SPANS: RELEASES of a LINE: those of others do not part a row");
        CarriedBack x = Runs.of("change;change;fault 7 from 0 till 1;");
        x.cut(1);
        x.cut(2);
        x.cut(1);
        x.release(1, 0);
        x.release(0, 0);
        x.release(1, 0);
        x.release(2, 0);
        x.release(0, 0);
        x.release(1, 0);
        Runs.due("spans(0, 0, -1, 0)", x.spans(0, 0, -1, 0), 1);
        Runs.due("spans(0, 0, 0, 0)", x.spans(0, 0, 0, 0), 1);
        Runs.due("spans(0, 0, 0, 1)", x.spans(0, 0, 0, 1), 4);
        Runs.due("spans(0, 1, -1, 0): all are free", x.spans(0, 1, -1, 0), 0);
        Runs.due("spans(0, 1, 0, 0)", x.spans(0, 1, 0, 0), NONE);
        Runs.due("spans(0, 2, 0, 0): a row of one", x.spans(0, 2, 0, 0), 3);
        Runs.due("spans(0, 2, 0, 1)", x.spans(0, 2, 0, 1), 3);
        Runs.due("spans(0, 3, -1, 0)", x.spans(0, 3, -1, 0), UNKNOWN);
        Runs.due("spans(1, 0, -1, 0)", x.spans(1, 0, -1, 0), UNKNOWN);
    }

    // ---- the policy

    private static void freezes() {
        Runs.about("terms 4: It LETS a CHANGE onto a LINE on a DAY, if that is in no freeze (DAYS D to E)");
        CarriedBack x = Runs.of("change;");
        x.cut(0);
        String[] texts = {"freeze 0 0;", "freeze 999 999;", "freeze 5 7;", "freeze 0 999;", "freeze 5 5;freeze 7 7;",
            "freeze 5 9;freeze 7 12;freeze 6 6;"};
        int[][] days = {{0, 0, 1, 1, 2, 1, 999, 1}, {997, 1, 998, 1, 999, 0, 0, 1}, {4, 1, 5, 0, 6, 0, 7, 0, 8, 1},
            {0, 0, 1, 0, 998, 0, 999, 0}, {4, 1, 5, 0, 6, 1, 7, 0, 8, 1}, {4, 1, 5, 0, 9, 0, 10, 0, 12, 0, 13, 1}};
        for (int k = 0; k < texts.length; k++) {
            Runs.policy(x, texts[k]);
            for (int d = 0; d < days[k].length; d += 2) {
                int day = days[k][d];
                Runs.due("lets(0, 0, " + day + ") under " + texts[k], x.lets(0, 0, day), days[k][d + 1]);
            }
            Runs.due("lets(0, 0, 1000) under " + texts[k], x.lets(0, 0, 1000), OUTSIDE);
            Runs.due("lets(0, 0, -1) under " + texts[k], x.lets(0, 0, -1), OUTSIDE);
        }
    }

    private static void onlyLines() {
        Runs.about("terms 4: the LINE is one of 'only', if that is told");
        CarriedBack x = Runs.of("change;");
        for (int l = 0; l < 4; l++) {
            x.cut(0);
        }
        for (int set = 0; set < 16; set++) {
            StringBuilder text = new StringBuilder();
            for (int l = 0; l < 4; l++) {
                if ((set >> l & 1) != 0) {
                    text.append(text.length() == 0 ? "only " : ",").append(l);
                }
            }
            text.append(set == 0 ? "" : ";");
            Runs.due(text.toString(), Runs.policy(x, text.toString()), set == 0 ? 0 : 1);
            for (int l = 0; l < 4; l++) {
                Runs.due("lets(" + l + ", 0, 0) under '" + text + "'", x.lets(l, 0, 0), set == 0 ? 1 : set >> l & 1);
            }
        }
        Runs.about("terms 4: 'only' of a LINE that is not cut yet");
        CarriedBack y = Runs.of("change;");
        Runs.due("only 3;", Runs.policy(y, "only 3;"), 1);
        for (int l = 0; l < 4; l++) {
            Runs.due("lets(" + l + ", 0, 0) ahead of the cut", y.lets(l, 0, 0), UNKNOWN);
            y.cut(0);
            Runs.due("lets(" + l + ", 0, 0)", y.lets(l, 0, 0), l == 3 ? 1 : 0);
        }
    }

    private static void riskOrLess() {
        Runs.about("terms 4: what the CHANGE and its NEEDS have of RISK together is R or less, if that is told");
        // change 11 needs 1 .. 10: 11 times 9 is 99, with 12 it is 100
        StringBuilder text = new StringBuilder("change;");
        for (int v = 1; v <= 11; v++) {
            text.append("change sets 0 ").append(v).append(" risk 9;");
        }
        text.append("change sets 0 12 risk 1;change;change risk 9;");
        CarriedBack x = Runs.of(text.toString());
        x.cut(1);
        int[] changes = {1, 2, 10, 11, 12, 13, 14};
        int[] risks = {9, 18, 90, 99, 100, 0, 9};
        for (int r : new int[] {0, 1, 8, 9, 10, 17, 18, 89, 90, 98, 99}) {
            Runs.due("risk " + r, Runs.policy(x, "risk " + r + ";"), 1);
            for (int k = 0; k < changes.length; k++) {
                int want = risks[k] <= r ? 1 : 0;
                Runs.due("lets(0, " + changes[k] + ", 0) under risk " + r, x.lets(0, changes[k], 0), want);
            }
            Runs.due("lets(0, 0, 0) under risk " + r, x.lets(0, 0, 0), NOT);
        }
        x.policy();
        for (int c : changes) {
            Runs.due("lets(0, " + c + ", 0), not told", x.lets(0, c, 0), 1);
        }
    }

    private static void weightOrMore() {
        Runs.about("terms 4: if W is told, FAULTS of the LINE that would go with these weigh W or more together");
        // with 1 goes 1; with 3, that needs 2, go 40 and 59; with 4 goes 99, with 5 one that is not in the line
        CarriedBack x = Runs.of("change;change;change sets 0 1;change reads 0;change;change;change;"
            + "fault 1 from 0 till 1;fault 40 from 0 till 2;fault 59 from 0 till 3;fault 98 from 0 till 4;"
            + "fault 50 from 6;change;fault 50 from 6 till 7;fault 7 from 0;");
        x.cut(1);
        int[] weights = {0, 1, 40, 99, 98, 0, 0, 0};
        for (int w : new int[] {0, 1, 2, 39, 40, 41, 97, 98, 99}) {
            Runs.due("weigh " + w, Runs.policy(x, "weigh " + w + ";"), 1);
            for (int c = 1; c < 8; c++) {
                int want = weights[c] >= w ? 1 : 0;
                Runs.due("lets(0, " + c + ", 0) under weigh " + w, x.lets(0, c, 0), want);
            }
            Runs.due("lets(0, 0, 0) under weigh " + w, x.lets(0, 0, 0), NOT);
        }
        // what went with 2 is gone then, and what 3 takes away alone is 59
        x.pick(0, 2);
        Runs.policy(x, "weigh 60;");
        Runs.due("lets(0, 3, 0) under weigh 60", x.lets(0, 3, 0), 0);
        Runs.policy(x, "weigh 59;");
        Runs.due("lets(0, 3, 0) under weigh 59", x.lets(0, 3, 0), 1);
        x.policy();
        Runs.due("lets(0, 6, 0), not told", x.lets(0, 6, 0), 1);
    }

    private static void allRulesAtOnce() {
        Runs.about("terms 4: all that is told has to hold");
        CarriedBack x = Runs.of("change;change risk 5;fault 7 from 0 till 1;");
        x.cut(1);
        x.cut(1);
        String[] freeze = {"freeze 8 9;", "freeze 9 10;"};
        String[] risk = {"risk 5;", "risk 4;"};
        String[] weigh = {"weigh 7;", "weigh 8;"};
        String[] only = {"only 1;", "only 0;"};
        for (int k = 0; k < 16; k++) {
            String text = freeze[k & 1] + risk[k >> 1 & 1] + weigh[k >> 2 & 1] + only[k >> 3];
            Runs.due(text, Runs.policy(x, text), 4);
            Runs.due("lets(1, 1, 10) under " + text, x.lets(1, 1, 10), k == 0 ? 1 : 0);
        }
    }

    private static void noneTold() {
        Runs.about("terms 4: (None told: all is let that is not IMPOSSIBLE.)");
        CarriedBack x = Runs.of("change risk 9;change sets 0 1 risk 9;change sets 0 2 risk 9;change reads 1;"
            + "change sets 1 1;");
        for (int l = 0; l < 4; l++) {
            x.cut(l % 2);
            for (int c = 0; c < 5; c++) {
                boolean in = c < l % 2;
                Runs.due("lets(" + l + ", " + c + ", 0)", x.lets(l, c, 0), in ? NOT : 1);
                Runs.due("lets(" + l + ", " + c + ", 999)", x.lets(l, c, 999), in ? NOT : 1);
            }
        }
        x.pick(0, 4);
        Runs.due("lets(0, 3, 0): IMPOSSIBLE", x.lets(0, 3, 0), NOT);
        Runs.due("blanks", Runs.policy(x, "  "), 0);
        Runs.due("lets(0, 3, 0): IMPOSSIBLE", x.lets(0, 3, 0), NOT);
        Runs.due("lets(0, 2, 0)", x.lets(0, 2, 0), 1);
    }

    // ---- images

    private static void imagesOfNoneAndAll() {
        Runs.about("promises 40, 41: an IMAGE of no LINE, and one of all that there may be");
        CarriedBack x = Runs.of("change sets 0 1,15 1 risk 1;change sets 0 2,15 2;change sets 0 3,15 3;");
        Runs.due("keep(0) of none", x.keep(0), 1);
        for (int l = 0; l < 4; l++) {
            x.cut(l);
            x.every(l, 90 + l);
        }
        for (int r = 0; r < 20; r++) {
            x.release((r + 3) % 4, 40 * r);
        }
        Runs.due("keep(1) of all", x.keep(1), 1);
        Runs.due("goBack(0)", x.goBack(0), 1);
        Runs.due("count(2)", x.count(2), 0);
        Runs.due("count(3)", x.count(3), 0);
        Runs.due("line(0, 0)", x.line(0, 0), UNKNOWN);
        // other lines in the places of those that were
        for (int l = 0; l < 4; l++) {
            x.cut(3 - l);
            x.release(l, 7);
        }
        Runs.due("release(0, 6)", x.release(0, 6), NOT);
        Runs.due("goBack(1)", x.goBack(1), 1);
        Runs.due("count(2)", x.count(2), 4);
        Runs.due("count(3)", x.count(3), 20);
        Runs.due("cut(0)", x.cut(0), CarriedBack.FULL);
        Runs.due("release(0, 760)", x.release(0, 760), CarriedBack.FULL);
        Runs.due("release(0, 759)", x.release(0, 759), NOT);
        for (int l = 0; l < 4; l++) {
            Runs.due("line(" + l + ", 0)", x.line(l, 0), l);
            Runs.due("line(" + l + ", 1)", x.line(l, 1), (1 << l) - 1);
            Runs.due("line(" + l + ", 4)", x.line(l, 4), 90 + l);
            Runs.due("value(" + l + ", 0)", x.value(l, 0), l);
            Runs.due("value(" + l + ", 15)", x.value(l, 15), l);
        }
        for (int r = 0; r < 20; r++) {
            Runs.due("released(" + r + ", 0)", x.released(r, 0), (r + 3) % 4);
            Runs.due("released(" + r + ", 1)", x.released(r, 1), 40 * r);
            Runs.due("released(" + r + ", 2)", x.released(r, 2), (1 << (r + 3) % 4) - 1);
            Runs.due("differs(" + r + ", 19)", x.differs(r, 19), (r + 3) % 4 == 2 ? 0 : 0x8001);
        }
    }

    private static void imagesKeepTrains() {
        Runs.about("terms 4: IMAGES 0, 1 keep LINES (TRAINS, too) and RELEASES");
        for (int i = 0; i <= 1; i++) {
            CarriedBack x = Runs.of("change;change;fault 7 from 0 till 1;");
            x.cut(1);
            x.every(0, 7);
            x.release(0, 3);
            Runs.due("goBack(" + i + "), not kept", x.goBack(i), NOT);
            Runs.due("keep(" + i + ")", x.keep(i), 1);
            Runs.due("goBack(" + (1 - i) + "), not kept", x.goBack(1 - i), NOT);
            x.every(0, 0);
            x.pick(0, 1);
            x.release(0, 8);
            x.cut(2);
            Runs.due("goBack(" + i + ")", x.goBack(i), 1);
            Runs.due("line(0, 4)", x.line(0, 4), 7);
            Runs.due("line(0, 1)", x.line(0, 1), 1);
            Runs.due("count(2)", x.count(2), 1);
            Runs.due("count(3)", x.count(3), 1);
            Runs.due("soonest(0, 1)", x.soonest(0, 1), 7);
            Runs.due("danger(0, 0, 9)", x.danger(0, 0, 9), 7);
            Runs.due("released(1, 0)", x.released(1, 0), UNKNOWN);
        }
        Runs.due("keep(2)", new CarriedBack().keep(2), UNKNOWN);
        Runs.due("keep(-1)", new CarriedBack().keep(-1), UNKNOWN);
        Runs.due("goBack(2)", new CarriedBack().goBack(2), UNKNOWN);
        Runs.due("goBack(-1)", new CarriedBack().goBack(-1), UNKNOWN);
    }

    private static void imagesStay() {
        Runs.about("promise 41: What is so becomes IMAGE i: it stays kept, and is not changed by what comes");
        CarriedBack x = Runs.of("change sets 0 1;change sets 0 2;");
        x.cut(0);
        x.keep(0);
        for (int times = 0; times < 3; times++) {
            x.pick(0, 0);
            x.every(0, 5);
            x.release(0, times);
            x.cut(1);
            Runs.due("goBack(0)", x.goBack(0), 1);
            Runs.due("line(0, 1)", x.line(0, 1), 0);
            Runs.due("line(0, 4)", x.line(0, 4), 0);
            Runs.due("value(0, 0)", x.value(0, 0), 0);
            Runs.due("count(2)", x.count(2), 1);
            Runs.due("count(3)", x.count(3), 0);
        }
        Runs.about("promise 40: IMAGE i becomes what is so, over a former one");
        x.pick(0, 0);
        Runs.due("keep(0)", x.keep(0), 1);
        x.pick(0, 1);
        Runs.due("goBack(0)", x.goBack(0), 1);
        Runs.due("line(0, 1)", x.line(0, 1), 1);
        Runs.due("value(0, 0)", x.value(0, 0), 1);
    }

    private static void imagesAreTwo() {
        Runs.about("terms 4: IMAGES 0, 1: each its own");
        CarriedBack x = Runs.of("change sets 0 1;change sets 0 2;");
        x.cut(0);
        x.keep(0);
        x.pick(0, 0);
        x.keep(1);
        x.pick(0, 1);
        int[][] want = {{0, 0}, {1, 1}, {0, 0}, {1, 1}, {1, 1}};
        for (int[] w : want) {
            Runs.due("goBack(" + w[0] + ")", x.goBack(w[0]), 1);
            Runs.due("line(0, 1)", x.line(0, 1), w[1]);
            Runs.due("value(0, 0)", x.value(0, 0), w[1]);
        }
        x.keep(0);
        x.undo(0, 0);
        x.keep(1);
        x.goBack(0);
        Runs.due("line(0, 1) of image 0", x.line(0, 1), 1);
        x.goBack(1);
        Runs.due("line(0, 1) of image 1", x.line(0, 1), 0);
    }

    private static void whatImagesDoNotKeep() {
        Runs.about("terms 4: IMAGES keep no more than that: THE TEXT, THE POLICY and the BREACH stay as they are");
        CarriedBack x = Runs.of("change;change;");
        x.cut(0);
        x.keep(0);
        Runs.policy(x, "freeze 3 3;");
        Runs.trunk(x, "change;change;x");
        Runs.feed(x, "change risk 7;");
        Runs.due("goBack(0)", x.goBack(0), 1);
        Runs.due("breach()", x.breach(), 14);
        Runs.due("count(4)", x.count(4), 14);
        Runs.due("lets(0, 0, 3)", x.lets(0, 0, 3), 0);
        Runs.due("lets(0, 0, 4)", x.lets(0, 0, 4), 1);
        Runs.due("trunk()", x.trunk(), 1);
        Runs.due("change(0, 2)", x.change(0, 2), 7);
        Runs.due("goBack(0): gone with the trunk", x.goBack(0), NOT);
        Runs.due("keep(0)", x.keep(0), 1);
        Runs.due("policy()", Runs.policy(x, "risk 7;"), 1);
        Runs.due("goBack(0): it stays with a policy", x.goBack(0), 1);
        Runs.due("a breach of a trunk", Runs.trunk(x, "x"), -11);
        Runs.due("goBack(0): it stays with a breach", x.goBack(0), 1);
    }
}
