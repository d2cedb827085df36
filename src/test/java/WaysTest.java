/** Promises 31 to 41: ready, orders, whence, cuts, ways up, spans, the policy, images. */
public final class WaysTest {
    private static final String CHAIN = "change sets 0 1;change sets 1 1;change sets 2 1;change sets 3 1 reads 0;"
        + "change sets 4 1 reads 3;";
    private static final String CYCLE = "change sets 0 1;change sets 0 2;change sets 0 1;change sets 0 2;";

    private WaysTest() {
    }

    public static void main(String[] args) {
        ready();
        orders();
        order();
        whence();
        strayed();
        bestCuts();
        waysUp();
        spans();
        lets();
        letsUnderPolicies();
        images();
        imagesApart();
        Runs.close();
    }

    private static void ready() {
        Runs.about("promise 31");
        CarriedBack x = Runs.of(TrunkTest.TRUNK);
        x.cut(1);
        x.cut(6);
        x.cut(0);
        Runs.due("ready(0, false)", x.ready(0, false), 14);
        Runs.due("ready(0, true)", x.ready(0, true), 62);
        Runs.due("ready(1, false)", x.ready(1, false), 0);
        Runs.due("ready(1, true)", x.ready(1, true), 0);
        Runs.due("ready(2, false)", x.ready(2, false), 9);
        Runs.due("ready(2, true)", x.ready(2, true), 63);
        Runs.due("line(0, 1): it stays", x.line(0, 1), 1);
        Runs.due("value(0, 0): it stays", x.value(0, 0), 1);
        Runs.due("ready(3, false)", x.ready(3, false), CarriedBack.UNKNOWN);
        Runs.due("ready(-1, true)", x.ready(-1, true), CarriedBack.UNKNOWN);
        // with the greatest first 0 would not come
        CarriedBack y = Runs.of("change reads 0;change sets 0 1;change reads 0;");
        y.cut(0);
        Runs.due("ready(0, false)", y.ready(0, false), 3);
        Runs.due("ready(0, true)", y.ready(0, true), 7);
        // in order of the trunk alone 1 would not come
        CarriedBack z = Runs.of("change sets 0 1;change reads 0;change sets 0 2;change sets 0 1;");
        z.cut(0);
        z.pick(0, 0);
        z.pick(0, 2);
        Runs.due("ready(0, false)", z.ready(0, false), 8);
        Runs.due("ready(0, true)", z.ready(0, true), 10);
        // the least one shuts out another
        CarriedBack w = Runs.of("change sets 0 1;change sets 1 1 reads 0;change sets 0 2;");
        w.cut(1);
        Runs.due("ready(0, true)", w.ready(0, true), 6);
        w.pick(0, 2);
        Runs.due("ready(0, true)", w.ready(0, true), 0);
    }

    private static void orders() {
        Runs.about("promise 32");
        CarriedBack x = Runs.of(CHAIN);
        x.cut(0);
        int[][] want = {{0, 1}, {1, 1}, {7, 6}, {8, 0}, {9, 1}, {31, 20}, {15, 12}, {25, 1}, {24, 0}};
        for (int[] w : want) {
            Runs.due("orders(0, " + w[0] + ")", x.orders(0, w[0]), w[1]);
        }
        Runs.due("line(0, 1): it stays", x.line(0, 1), 0);
        Runs.due("orders(0, 32)", x.orders(0, 32), CarriedBack.UNKNOWN);
        Runs.due("orders(0, -1)", x.orders(0, -1), CarriedBack.UNKNOWN);
        Runs.due("orders(0, min)", x.orders(0, Integer.MIN_VALUE), CarriedBack.UNKNOWN);
        Runs.due("orders(1, 0)", x.orders(1, 0), CarriedBack.UNKNOWN);
        Runs.due("orders(-1, 0)", x.orders(-1, 0), CarriedBack.UNKNOWN);
        x.pick(0, 0);
        Runs.due("orders(0, 24)", x.orders(0, 24), 1);
        Runs.due("orders(0, 25): one is in it", x.orders(0, 25), CarriedBack.NOT);
        Runs.due("orders(0, 33): unknown first", x.orders(0, 33), CarriedBack.UNKNOWN);
        CarriedBack y = Runs.of("change;".repeat(24));
        y.cut(0);
        Runs.due("orders of eight", y.orders(0, 0xff0000), 40320);
        Runs.due("orders of nine", y.orders(0, 0xff8000), CarriedBack.NOT);
        Runs.due("orders of all", y.orders(0, 0xffffff), CarriedBack.NOT);
        Runs.due("orders of seven", y.orders(0, 0x7f), 5040);
        CarriedBack z = Runs.of(CYCLE);
        z.cut(1);
        // behind 0: 1 then 2 then 3, or 3 then 2 then 1
        Runs.due("orders(0, 14)", z.orders(0, 14), 2);
        Runs.due("orders(0, 6)", z.orders(0, 6), 1);
        Runs.due("orders(0, 10)", z.orders(0, 10), 0);
    }

    private static void order() {
        Runs.about("promise 33");
        CarriedBack x = Runs.of(CHAIN);
        x.cut(0);
        int[][] rows = {{0, 1, 2}, {0, 2, 1}, {1, 0, 2}, {1, 2, 0}, {2, 0, 1}, {2, 1, 0}};
        for (int i = 0; i < 6; i++) {
            for (int j = 0; j < 3; j++) {
                Runs.due("order(0, 7, " + i + ", " + j + ")", x.order(0, 7, i, j), rows[i][j]);
            }
        }
        int[][] partly = {{0, 1, 3}, {0, 3, 1}, {1, 0, 3}};
        for (int i = 0; i < 3; i++) {
            for (int j = 0; j < 3; j++) {
                Runs.due("order(0, 11, " + i + ", " + j + ")", x.order(0, 11, i, j), partly[i][j]);
            }
        }
        Runs.due("order(0, 11, 3, 0)", x.order(0, 11, 3, 0), CarriedBack.NONE);
        Runs.due("order(0, 7, 6, 0)", x.order(0, 7, 6, 0), CarriedBack.NONE);
        Runs.due("order(0, 7, max, 0)", x.order(0, 7, Integer.MAX_VALUE, 0), CarriedBack.NONE);
        Runs.due("order(0, 7, 0, 3)", x.order(0, 7, 0, 3), CarriedBack.NONE);
        Runs.due("order(0, 7, 0, max)", x.order(0, 7, 0, Integer.MAX_VALUE), CarriedBack.NONE);
        Runs.due("order(0, 7, 0, -1)", x.order(0, 7, 0, -1), CarriedBack.NONE);
        Runs.due("order(0, 0, 0, 0)", x.order(0, 0, 0, 0), CarriedBack.NONE);
        Runs.due("order(0, 8, 0, 0)", x.order(0, 8, 0, 0), CarriedBack.NONE);
        Runs.due("order(0, 7, -1, 0)", x.order(0, 7, -1, 0), CarriedBack.OUTSIDE);
        Runs.due("order(0, 32, -1, 0)", x.order(0, 32, -1, 0), CarriedBack.UNKNOWN);
        Runs.due("order(1, 7, 0, 0)", x.order(1, 7, 0, 0), CarriedBack.UNKNOWN);
        Runs.due("order(0, -1, 0, 0)", x.order(0, -1, 0, 0), CarriedBack.UNKNOWN);
        x.pick(0, 1);
        Runs.due("order(0, 7, 0, 0): one is in it", x.order(0, 7, 0, 0), CarriedBack.NOT);
        Runs.due("order(0, 7, -1, 0)", x.order(0, 7, -1, 0), CarriedBack.OUTSIDE);
        CarriedBack y = Runs.of("change;".repeat(24));
        y.cut(0);
        Runs.due("order of nine", y.order(0, 0xff8000, 0, 0), CarriedBack.NOT);
        Runs.due("order of nine, i below 0", y.order(0, 0xff8000, -1, 0), CarriedBack.OUTSIDE);
        for (int j = 0; j < 8; j++) {
            Runs.due("first of eight, " + j, y.order(0, 0xff0000, 0, j), 16 + j);
            Runs.due("last of eight, " + j, y.order(0, 0xff0000, 40319, j), 23 - j);
        }
        Runs.due("behind the last", y.order(0, 0xff0000, 40320, 0), CarriedBack.NONE);
        CarriedBack z = Runs.of(CYCLE);
        z.cut(1);
        for (int j = 0; j < 3; j++) {
            Runs.due("order(0, 14, 0, " + j + ")", z.order(0, 14, 0, j), 1 + j);
            Runs.due("order(0, 14, 1, " + j + ")", z.order(0, 14, 1, j), 3 - j);
        }
    }

    private static void whence() {
        Runs.about("promise 34");
        CarriedBack x = Runs.of(TrunkTest.TRUNK);
        x.cut(6);
        int[] want = {4, 5, 4, -1};
        for (int s = 0; s < 4; s++) {
            Runs.due("whence(0, " + s + ")", x.whence(0, s), want[s]);
        }
        x.cut(1);
        Runs.due("whence(1, 0)", x.whence(1, 0), 0);
        x.undo(0, 5);
        Runs.due("whence(0, 1)", x.whence(0, 1), 1);
        x.undo(0, 1);
        Runs.due("whence(0, 1)", x.whence(0, 1), CarriedBack.NONE);
        Runs.due("whence(2, 0)", x.whence(2, 0), CarriedBack.UNKNOWN);
        Runs.due("whence(-1, 0)", x.whence(-1, 0), CarriedBack.UNKNOWN);
        Runs.due("whence(0, 16)", x.whence(0, 16), CarriedBack.UNKNOWN);
        Runs.due("whence(0, -1)", x.whence(0, -1), CarriedBack.UNKNOWN);
        CarriedBack y = Runs.of(CYCLE);
        y.cut(0);
        y.pick(0, 0);
        y.pick(0, 3);
        Runs.due("whence(0, 0)", y.whence(0, 0), 3);
        y.pick(0, 2);
        Runs.due("whence(0, 0): a later one sets it to another value", y.whence(0, 0), 2);
        y.cut(4);
        Runs.due("whence(1, 0)", y.whence(1, 0), 3);
        y.undo(1, 1);
        Runs.due("whence(1, 0): one that is in it", y.whence(1, 0), 2);
    }

    private static void strayed() {
        Runs.about("promise 35");
        CarriedBack x = Runs.of(TrunkTest.TRUNK);
        x.cut(1);
        x.cut(0);
        x.cut(6);
        Runs.due("strayed(0)", x.strayed(0), 0);
        Runs.due("strayed(1): an empty one", x.strayed(1), 0);
        Runs.due("strayed(2)", x.strayed(2), 0);
        x.pick(0, 3);
        Runs.due("strayed(0)", x.strayed(0), 3);
        x.pick(0, 1);
        Runs.due("strayed(0)", x.strayed(0), 1);
        x.pick(0, 2);
        Runs.due("strayed(0)", x.strayed(0), 0);
        x.undo(2, 4);
        Runs.due("strayed(2)", x.strayed(2), 5);
        x.undo(2, 5);
        Runs.due("strayed(2)", x.strayed(2), 0);
        x.undo(0, 3);
        x.undo(0, 1);
        x.undo(0, 2);
        x.undo(0, 0);
        Runs.due("line(0, 1)", x.line(0, 1), 0);
        Runs.due("strayed(0): empty again", x.strayed(0), 0);
        Runs.due("strayed(3)", x.strayed(3), CarriedBack.UNKNOWN);
        Runs.due("strayed(-1)", x.strayed(-1), CarriedBack.UNKNOWN);
        CarriedBack y = Runs.of("change sets 15 1;change sets 0 1;");
        y.cut(0);
        y.pick(0, 1);
        Runs.due("strayed(0)", y.strayed(0), 32768);
    }

    private static void bestCuts() {
        Runs.about("promise 36");
        CarriedBack x = Runs.of(TrunkTest.TRUNK);
        // weights behind 0 .. 6: 0, 5, 0, 7, 16, 7, 7
        int[][] want = {{0, 6, 2, 0}, {0, 1, 0, 0}, {0, 0, 0, 0}, {3, 6, 6, 7}, {3, 5, 5, 7}, {3, 4, 3, 7},
            {4, 4, 4, 16}, {1, 1, 1, 5}, {4, 5, 5, 7}, {6, 6, 6, 7}, {1, 3, 2, 0}};
        for (int[] w : want) {
            Runs.due("bestCut(" + w[0] + ", " + w[1] + ", 0)", x.bestCut(w[0], w[1], 0), w[2]);
            Runs.due("bestCut(" + w[0] + ", " + w[1] + ", 1)", x.bestCut(w[0], w[1], 1), w[3]);
        }
        Runs.due("bestCut(-1, 0, 0)", x.bestCut(-1, 0, 0), CarriedBack.OUTSIDE);
        Runs.due("bestCut(0, 7, 0)", x.bestCut(0, 7, 0), CarriedBack.OUTSIDE);
        Runs.due("bestCut(7, 7, 0)", x.bestCut(7, 7, 0), CarriedBack.OUTSIDE);
        Runs.due("bestCut(3, 2, 0)", x.bestCut(3, 2, 0), CarriedBack.OUTSIDE);
        Runs.due("bestCut(0, 6, 2)", x.bestCut(0, 6, 2), CarriedBack.OUTSIDE);
        Runs.due("bestCut(0, 6, -1)", x.bestCut(0, 6, -1), CarriedBack.OUTSIDE);
    }

    private static void waysUp() {
        Runs.about("promise 37");
        CarriedBack x = ReleasesTest.nine();
        int[][] want = {{0, 0, 1, 1}, {3, 0, 4, 2}, {5, 0, -1, -1}, {6, 2, 7, 8}, {6, 1, -1, -1}, {8, 2, -1, -1}};
        for (int[] w : want) {
            Runs.due("up(" + w[0] + ", " + w[1] + ", 0)", x.up(w[0], w[1], 0), w[2]);
            Runs.due("up(" + w[0] + ", " + w[1] + ", 1)", x.up(w[0], w[1], 1), w[3]);
        }
        Runs.due("up(2, 0, 0): it is free", x.up(2, 0, 0), CarriedBack.NOT);
        Runs.due("up(2, 0, 2)", x.up(2, 0, 2), CarriedBack.OUTSIDE);
        Runs.due("up(0, 0, -1)", x.up(0, 0, -1), CarriedBack.OUTSIDE);
        Runs.due("up(9, 0, 0)", x.up(9, 0, 0), CarriedBack.UNKNOWN);
        Runs.due("up(-1, 0, 0)", x.up(-1, 0, 0), CarriedBack.UNKNOWN);
        Runs.due("up(0, 3, 0)", x.up(0, 3, 0), CarriedBack.UNKNOWN);
        Runs.due("up(0, -1, 5)", x.up(0, -1, 5), CarriedBack.UNKNOWN);
        x.pick(0, 3);
        x.release(0, 30);
        Runs.due("up(6, 2, 0): the least of like ones", x.up(6, 2, 0), 7);
        Runs.due("up(8, 2, 0)", x.up(8, 2, 0), 9);
        x.undo(0, 1);
        x.release(0, 30);
        Runs.due("up(8, 2, 0): it has another fault", x.up(8, 2, 0), 9);
        x.undo(0, 2);
        x.undo(0, 3);
        x.undo(0, 0);
        x.release(0, 30);
        Runs.due("released(11, 2)", x.released(11, 2), 0);
        Runs.due("up(8, 2, 0): less toll", x.up(8, 2, 0), 11);
        Runs.due("up(8, 2, 1)", x.up(8, 2, 1), 7);
        Runs.due("up(8, 1, 0)", x.up(8, 1, 0), 11);
        Runs.due("up(5, 0, 0)", x.up(5, 0, 0), 11);
        // a like one has a fault less at no toll more
        CarriedBack y = Runs.of("change;change;fault 1 from 0 till 1;");
        y.cut(1);
        y.release(0, 0);
        y.pick(0, 1);
        y.release(0, 0);
        Runs.due("up(0, 0, 1): no toll", y.up(0, 0, 1), 0);
        Runs.due("up(0, 0, 0)", y.up(0, 0, 0), 1);
    }

    private static void spans() {
        Runs.about("promise 38");
        CarriedBack x = ReleasesTest.nine();
        Runs.due("spans(0, 0, -1, 0)", x.spans(0, 0, -1, 0), 2);
        Runs.due("spans(0, 0, -1, 1)", x.spans(0, 0, -1, 1), 2);
        Runs.due("spans(1, 0, -1, 0)", x.spans(1, 0, -1, 0), 1);
        Runs.due("spans(2, 1, -1, 0)", x.spans(2, 1, -1, 0), 0);
        int[][] want = {{0, 0, 0, 0, 0}, {0, 0, 1, 3, 3}, {0, 0, 2, -1, -1}, {0, 1, 0, 5, 5}, {0, 1, 1, -1, -1},
            {1, 0, 0, 6, 8}, {1, 1, 0, 7, 7}, {2, 1, 0, -1, -1}, {0, 0, 1000, -1, -1}};
        for (int[] w : want) {
            Runs.due("spans(" + w[0] + ", " + w[1] + ", " + w[2] + ", 0)", x.spans(w[0], w[1], w[2], 0), w[3]);
            Runs.due("spans(" + w[0] + ", " + w[1] + ", " + w[2] + ", 1)", x.spans(w[0], w[1], w[2], 1), w[4]);
        }
        Runs.due("spans(0, 0, 0, 2)", x.spans(0, 0, 0, 2), CarriedBack.OUTSIDE);
        Runs.due("spans(0, 0, 0, -1)", x.spans(0, 0, 0, -1), CarriedBack.OUTSIDE);
        Runs.due("spans(0, 0, -1, 2)", x.spans(0, 0, -1, 2), CarriedBack.OUTSIDE);
        Runs.due("spans(3, 0, 0, 0)", x.spans(3, 0, 0, 0), CarriedBack.UNKNOWN);
        Runs.due("spans(-1, 0, 0, 0)", x.spans(-1, 0, 0, 0), CarriedBack.UNKNOWN);
        Runs.due("spans(0, 2, 0, 2)", x.spans(0, 2, 0, 2), CarriedBack.UNKNOWN);
        Runs.due("spans(0, -1, 0, 0)", x.spans(0, -1, 0, 0), CarriedBack.UNKNOWN);
    }

    private static void lets() {
        Runs.about("promise 39");
        CarriedBack x = Runs.of(TrunkTest.TRUNK);
        x.cut(1);
        x.cut(4);
        for (int c = 1; c < 6; c++) {
            Runs.due("lets(0, " + c + ", 0): none told", x.lets(0, c, 0), 1);
        }
        Runs.due("lets(0, 0, 0): in it", x.lets(0, 0, 0), CarriedBack.NOT);
        Runs.due("lets(0, 0, 1000)", x.lets(0, 0, 1000), CarriedBack.OUTSIDE);
        Runs.due("lets(0, 1, -1)", x.lets(0, 1, -1), CarriedBack.OUTSIDE);
        Runs.due("lets(0, 1, 999)", x.lets(0, 1, 999), 1);
        Runs.due("lets(0, 6, -1)", x.lets(0, 6, -1), CarriedBack.UNKNOWN);
        Runs.due("lets(0, -1, 0)", x.lets(0, -1, 0), CarriedBack.UNKNOWN);
        Runs.due("lets(2, 1, 0)", x.lets(2, 1, 0), CarriedBack.UNKNOWN);
        Runs.due("lets(-1, 1, 0)", x.lets(-1, 1, 0), CarriedBack.UNKNOWN);
        Runs.policy(x, "freeze 10 20;freeze 15 15;freeze 999 999;");
        int[][] days = {{0, 1}, {9, 1}, {10, 0}, {15, 0}, {20, 0}, {21, 1}, {998, 1}, {999, 0}};
        for (int[] d : days) {
            Runs.due("lets(0, 1, " + d[0] + ")", x.lets(0, 1, d[0]), d[1]);
        }
        Runs.due("lets(0, 0, 15): NOT ahead of the policy", x.lets(0, 0, 15), CarriedBack.NOT);
        Runs.policy(x, "only 1,3;");
        Runs.due("lets(0, 1, 5)", x.lets(0, 1, 5), 0);
        Runs.due("lets(1, 4, 5)", x.lets(1, 4, 5), 1);
        Runs.policy(x, "only 0;");
        Runs.due("lets(0, 1, 5)", x.lets(0, 1, 5), 1);
        Runs.due("lets(1, 4, 5)", x.lets(1, 4, 5), 0);
    }

    private static void letsEach(CarriedBack x, String policy, int l, int[] want) {
        Runs.policy(x, policy);
        for (int c = 0; c < want.length; c++) {
            Runs.due("lets(" + l + ", " + c + ", 5) under '" + policy + "'", x.lets(l, c, 5), want[c]);
        }
    }

    private static void letsUnderPolicies() {
        Runs.about("promise 39, policies");
        CarriedBack x = Runs.of(TrunkTest.TRUNK);
        x.cut(1);
        x.cut(4);
        int not = CarriedBack.NOT;
        // RISK with NEEDS on line 0: 3, 1, 0, 3, 6
        letsEach(x, "risk 6;", 0, new int[] {not, 1, 1, 1, 1, 1});
        letsEach(x, "risk 5;", 0, new int[] {not, 1, 1, 1, 1, 0});
        letsEach(x, "risk 2;", 0, new int[] {not, 0, 1, 1, 0, 0});
        letsEach(x, "risk 0;", 0, new int[] {not, 0, 0, 1, 0, 0});
        letsEach(x, "weigh 0;", 0, new int[] {not, 1, 1, 1, 1, 1});
        letsEach(x, "weigh 5;", 0, new int[] {not, 1, 0, 0, 0, 1});
        letsEach(x, "weigh 6;", 0, new int[] {not, 0, 0, 0, 0, 0});
        letsEach(x, "weigh 9;", 1, new int[] {not, not, not, not, 1, 1});
        letsEach(x, "weigh 10;", 1, new int[] {not, not, not, not, 0, 0});
        letsEach(x, "weigh 5;risk 3;only 0;freeze 6 9;freeze 1 4;", 0, new int[] {not, 1, 0, 0, 0, 0});
        letsEach(x, "weigh 5;risk 3;only 0;freeze 6 9;freeze 1 5;", 0, new int[] {not, 0, 0, 0, 0, 0});
        letsEach(x, "", 0, new int[] {not, 1, 1, 1, 1, 1});
    }

    private static void images() {
        Runs.about("promises 40, 41");
        CarriedBack x = ReleasesTest.nine();
        x.every(0, 7);
        Runs.due("goBack(0): not kept", x.goBack(0), CarriedBack.NOT);
        Runs.due("keep(0)", x.keep(0), 1);
        Runs.due("goBack(1): not kept", x.goBack(1), CarriedBack.NOT);
        Runs.due("keep(2)", x.keep(2), CarriedBack.UNKNOWN);
        Runs.due("keep(-1)", x.keep(-1), CarriedBack.UNKNOWN);
        Runs.due("goBack(2)", x.goBack(2), CarriedBack.UNKNOWN);
        Runs.due("goBack(-1)", x.goBack(-1), CarriedBack.UNKNOWN);
        x.every(0, 9);
        x.pick(0, 3);
        x.cut(2);
        x.release(0, 50);
        Runs.policy(x, "freeze 3 3;");
        Runs.feed(x, "change");
        Runs.due("keep(1)", x.keep(1), 1);
        Runs.due("goBack(0)", x.goBack(0), 1);
        Runs.due("count(2)", x.count(2), 2);
        Runs.due("count(3)", x.count(3), 9);
        Runs.due("count(4): the text stays", x.count(4), 6);
        Runs.due("line(0, 1)", x.line(0, 1), 7);
        Runs.due("line(0, 4): trains, too", x.line(0, 4), 7);
        Runs.due("lets(0, 3, 3): the policy stays", x.lets(0, 3, 3), 0);
        Runs.due("release(0, 20)", x.release(0, 20), 9);
        Runs.due("released(9, 2)", x.released(9, 2), 7);
        Runs.due("goBack(1)", x.goBack(1), 1);
        Runs.due("released(9, 2)", x.released(9, 2), 15);
        Runs.due("released(9, 1)", x.released(9, 1), 50);
        Runs.due("line(0, 4)", x.line(0, 4), 9);
        Runs.due("count(2)", x.count(2), 3);
        Runs.due("goBack(0), once more", x.goBack(0), 1);
        Runs.due("count(3)", x.count(3), 9);
    }

    private static void imagesApart() {
        Runs.about("promises 40, 41, values");
        CarriedBack x = Runs.of(TrunkTest.TRUNK);
        x.cut(1);
        x.release(0, 3);
        x.keep(1);
        x.pick(0, 1);
        x.release(0, 4);
        x.keep(0);
        x.undo(0, 1);
        x.undo(0, 0);
        Runs.due("value(0, 0)", x.value(0, 0), 0);
        Runs.due("goBack(1)", x.goBack(1), 1);
        Runs.due("value(0, 0)", x.value(0, 0), 1);
        Runs.due("value(0, 1)", x.value(0, 1), 0);
        Runs.due("count(3)", x.count(3), 1);
        x.pick(0, 2);
        x.release(0, 9);
        Runs.due("value(0, 0)", x.value(0, 0), 3);
        Runs.due("goBack(0)", x.goBack(0), 1);
        Runs.due("value(0, 0)", x.value(0, 0), 1);
        Runs.due("value(0, 1)", x.value(0, 1), 2);
        Runs.due("differs(0, 1)", x.differs(0, 1), 2);
        Runs.due("released(1, 1)", x.released(1, 1), 4);
        Runs.due("goBack(1): what came since is not in it", x.goBack(1), 1);
        Runs.due("line(0, 1)", x.line(0, 1), 1);
        Runs.due("keep(1): over the former", x.keep(1), 1);
        x.pick(0, 1);
        Runs.due("keep(1)", x.keep(1), 1);
        x.undo(0, 1);
        Runs.due("goBack(1)", x.goBack(1), 1);
        Runs.due("line(0, 1)", x.line(0, 1), 3);
        Runs.due("line(0, 0)", x.line(0, 0), 1);
        Runs.due("keep(1)", x.keep(1), 1);
        Runs.due("goBack(1): kept twice", x.goBack(1), 1);
        CarriedBack y = new CarriedBack();
        Runs.due("keep(0) of a new object", y.keep(0), 1);
        y.cut(0);
        Runs.due("goBack(0)", y.goBack(0), 1);
        Runs.due("count(2)", y.count(2), 0);
    }
}
