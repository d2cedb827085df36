import java.util.HashMap;
import java.util.List;
import java.util.Map;

/**
 * "REFUSALS, of several the first in this order: UNKNOWN (a CHANGE, SLOT, LINE, FAULT, RELEASE, IMAGE that there
 * is not; bits of such), OUTSIDE (another number out of its bounds), NOT (not now, as told), FULL. What is refused
 * changes nothing." Each refusal of each promise, and each two that can meet in one call.
 */
public final class RefusalsTest {
    private static final int U = CarriedBack.UNKNOWN;
    private static final int O = CarriedBack.OUTSIDE;
    private static final int N = CarriedBack.NOT;
    private static final int F = CarriedBack.FULL;
    private static final int MIN = Integer.MIN_VALUE;
    private static final int MAX = Integer.MAX_VALUE;

    /** Numbers that there are not: beside the last one, beside the limits, and where a shift or a product wraps. */
    private static final int[] NO_LINE = {-1, 3, 4, 32, 33, -32, 1 << 28, MIN, MAX};
    private static final int[] NO_CHANGE = {-1, 6, 24, 32, 33, 34, -32, 1 << 28, MIN, MAX};
    private static final int[] NO_SLOT = {-1, 16, 17, 32, -16, MIN, MAX};
    private static final int[] NO_FAULT = {-1, 3, 10, 32, 33, -32, MIN, MAX};
    private static final int[] NO_RELEASE = {-1, 4, 20, 32, -32, 1 << 28, MIN, MAX};
    private static final int[] NO_IMAGE = {-1, 2, 32, 33, MIN, MAX};
    private static final int[] NO_DAY = {-1, 1000, 1001, MIN, MAX};

    /** A call with one number left open. */
    private interface With {
        int on(CarriedBack x, int v);
    }

    private static final Map<Runs.State, List<String>> SEEN = new HashMap<>();

    private RefusalsTest() {
    }

    public static void main(String[] args) {
        texts();
        whatTheTrunkTells();
        lines();
        changesOnLines();
        pairsOfChanges();
        fixes();
        releases();
        twoReleases();
        faultsOfReleases();
        trains();
        ready();
        orders();
        valuesOfLines();
        cuts();
        waysUp();
        policy();
        images();
        newOnes();
        Runs.close();
    }

    // ---- states

    /**
     * Lines 0 {0, 1}, 1 {0 .. 3}, 2 {0, 3}; releases on days 5, 6, 10, 20 of lines 0, 1, 0, 2; image 0 kept behind
     * two of them; a policy; a breach at byte 7; a text that waits.
     */
    private static CarriedBack busy() {
        CarriedBack x = Runs.of(TrunkTest.TRUNK);
        Runs.policy(x, "freeze 10 20;risk 5;weigh 5;only 0,2;");
        x.cut(1);
        x.cut(4);
        x.cut(0);
        x.every(0, 7);
        x.every(2, 99);
        x.release(0, 5);
        x.release(1, 6);
        x.keep(0);
        x.pick(0, 1);
        x.release(0, 10);
        x.pick(2, 0);
        x.pick(2, 3);
        x.release(2, 20);
        Runs.trunk(x, "change;x");
        Runs.feed(x, "change risk 7;");
        return x;
    }

    /** As many lines, releases and bytes of text as there may be, on day 998, and no image. */
    private static CarriedBack full() {
        CarriedBack x = Runs.of("change;".repeat(24) + "fault 1 from 0;".repeat(10));
        for (int l = 0; l < 4; l++) {
            x.cut(l);
        }
        for (int r = 0; r < 20; r++) {
            x.release(r % 4, 998);
        }
        Runs.feed(x, "change risk 7;" + " ".repeat(486));
        return x;
    }

    /** As busy, with a text that is too long for a policy. */
    private static CarriedBack longText() {
        CarriedBack x = busy();
        Runs.feed(x, " ".repeat(107));
        return x;
    }

    /** As busy, with two images that are unlike one another and unlike what is so. */
    private static CarriedBack twoImages() {
        CarriedBack x = busy();
        x.keep(1);
        x.pick(0, 2);
        x.every(0, 8);
        x.release(0, 30);
        return x;
    }

    private static final Runs.State BUSY = RefusalsTest::busy;
    private static final Runs.State MADE_FULL = RefusalsTest::full;
    private static final Runs.State LONG_TEXT = RefusalsTest::longText;
    private static final Runs.State TWO_IMAGES = RefusalsTest::twoImages;
    private static final Runs.State MADE_NEW = CarriedBack::new;

    private static void in(Runs.State state, String call, Runs.Call asked, int want) {
        CarriedBack x = state.made();
        Runs.due(call, asked.on(x), want);
        if (!SEEN.containsKey(state)) {
            SEEN.put(state, Seen.of(state.made()));
        }
        Runs.same(call + " changes nothing", Seen.of(x), SEEN.get(state));
    }

    private static void refused(String call, Runs.Call asked, int want) {
        in(BUSY, call, asked, want);
    }

    private static void refusedFull(String call, Runs.Call asked, int want) {
        in(MADE_FULL, call, asked, want);
    }

    /** A call is refused with each of some numbers at the place of its v. */
    private static void each(String call, int[] numbers, With asked, int want) {
        for (int v : numbers) {
            refused(call + ", v = " + v, x -> asked.on(x, v), want);
        }
    }

    // ---- the trunk

    private static void texts() {
        Runs.about("promise 2: OUTSIDE (n 1 .. 8), FULL (500)");
        each("feed(v, 0)", new int[] {0, -1, 9, 10, 64, MIN, MAX}, (x, v) -> x.feed(v, 0), O);
        refusedFull("feed(1, 59)", x -> x.feed(1, 59), F);
        refusedFull("feed(8, -1)", x -> x.feed(8, -1), F);
        refusedFull("feed(0, 0): OUTSIDE ahead of FULL", x -> x.feed(0, 0), O);
        refusedFull("feed(9, 0): OUTSIDE ahead of FULL", x -> x.feed(9, 0), O);
        refusedFull("feed(max, 0): OUTSIDE ahead of FULL", x -> x.feed(MAX, 0), O);
        Runs.about("promise 4: NOT: more than 120 bytes (THE TEXT stays)");
        in(LONG_TEXT, "policy()", x -> x.policy(), N);
        refusedFull("policy()", x -> x.policy(), N);
    }

    private static void whatTheTrunkTells() {
        Runs.about("promise 6: UNKNOWN, OUTSIDE");
        each("change(v, 0)", NO_CHANGE, (x, v) -> x.change(v, 0), U);
        each("change(v, 5)", NO_CHANGE, (x, v) -> x.change(v, 5), U);
        each("change(0, v)", new int[] {-1, 5, 6, MIN, MAX}, (x, v) -> x.change(0, v), O);
        refusedFull("change(24, 0)", x -> x.change(24, 0), U);
        Runs.about("promise 7: UNKNOWN");
        each("sets(v, 0)", NO_CHANGE, (x, v) -> x.sets(v, 0), U);
        each("sets(0, v)", NO_SLOT, (x, v) -> x.sets(0, v), U);
        each("sets(5, v)", NO_SLOT, (x, v) -> x.sets(5, v), U);
        Runs.about("promise 8: UNKNOWN");
        each("ahead(v, 0)", new int[] {-1, 7, 25, 32, 1 << 28, MIN, MAX}, (x, v) -> x.ahead(v, 0), U);
        each("ahead(6, v)", NO_SLOT, (x, v) -> x.ahead(6, v), U);
        refusedFull("ahead(25, 0)", x -> x.ahead(25, 0), U);
        Runs.about("promise 9: UNKNOWN, OUTSIDE");
        each("fault(v, 0)", NO_FAULT, (x, v) -> x.fault(v, 0), U);
        each("fault(v, 3)", NO_FAULT, (x, v) -> x.fault(v, 3), U);
        each("fault(0, v)", new int[] {-1, 3, 4, MIN, MAX}, (x, v) -> x.fault(0, v), O);
        refusedFull("fault(10, 0)", x -> x.fault(10, 0), U);
        Runs.about("promise 10: OUTSIDE");
        each("count(v)", new int[] {-1, 5, 6, MIN, MAX}, (x, v) -> x.count(v), O);
    }

    // ---- lines

    private static void lines() {
        Runs.about("promise 11: OUTSIDE, FULL");
        each("cut(v)", new int[] {-1, 7, 8, 24, 25, MIN, MAX}, (x, v) -> x.cut(v), O);
        refusedFull("cut(0)", x -> x.cut(0), F);
        refusedFull("cut(24)", x -> x.cut(24), F);
        refusedFull("cut(25): OUTSIDE ahead of FULL", x -> x.cut(25), O);
        refusedFull("cut(-1): OUTSIDE ahead of FULL", x -> x.cut(-1), O);
        Runs.about("promise 12: UNKNOWN, OUTSIDE");
        each("line(v, 0)", NO_LINE, (x, v) -> x.line(v, 0), U);
        each("line(v, 5)", NO_LINE, (x, v) -> x.line(v, 5), U);
        each("line(0, v)", new int[] {-1, 5, 6, MIN, MAX}, (x, v) -> x.line(0, v), O);
        refusedFull("line(4, 0)", x -> x.line(4, 0), U);
        Runs.about("promise 13: UNKNOWN");
        each("value(v, 0)", NO_LINE, (x, v) -> x.value(v, 0), U);
        each("value(0, v)", NO_SLOT, (x, v) -> x.value(0, v), U);
        each("value(2, v)", NO_SLOT, (x, v) -> x.value(2, v), U);
    }

    private static void changesOnLines() {
        Runs.about("promise 14: UNKNOWN, NOT");
        each("clash(v, 2)", NO_LINE, (x, v) -> x.clash(v, 2), U);
        each("clash(v, 0)", NO_LINE, (x, v) -> x.clash(v, 0), U);
        each("clash(0, v)", NO_CHANGE, (x, v) -> x.clash(0, v), U);
        each("clash(1, v)", new int[] {0, 1, 2, 3}, (x, v) -> x.clash(1, v), N);
        Runs.about("promise 15: UNKNOWN, NOT");
        each("pick(v, 2)", NO_LINE, (x, v) -> x.pick(v, 2), U);
        each("pick(v, 0)", NO_LINE, (x, v) -> x.pick(v, 0), U);
        each("pick(0, v)", NO_CHANGE, (x, v) -> x.pick(0, v), U);
        each("pick(1, v), it is in it", new int[] {0, 1, 2, 3}, (x, v) -> x.pick(1, v), N);
        each("pick(0, v), not cleanly", new int[] {4, 5}, (x, v) -> x.pick(0, v), N);
        Runs.about("promise 16: UNKNOWN, NOT");
        each("undo(v, 2)", NO_LINE, (x, v) -> x.undo(v, 2), U);
        each("undo(v, 0)", NO_LINE, (x, v) -> x.undo(v, 0), U);
        each("undo(0, v)", NO_CHANGE, (x, v) -> x.undo(0, v), U);
        each("undo(0, v), it is not in it", new int[] {2, 3, 4, 5}, (x, v) -> x.undo(0, v), N);
        refused("undo(1, 0), it cannot be", x -> x.undo(1, 0), N);
        Runs.about("promise 17: UNKNOWN");
        each("needs(v, 2)", NO_LINE, (x, v) -> x.needs(v, 2), U);
        each("needs(0, v)", NO_CHANGE, (x, v) -> x.needs(0, v), U);
        refused("needs(0, 0): NONE", x -> x.needs(0, 0), CarriedBack.NONE);
        Runs.about("promise 18: UNKNOWN, NOT");
        each("carry(v, 2)", NO_LINE, (x, v) -> x.carry(v, 2), U);
        each("carry(v, 0)", NO_LINE, (x, v) -> x.carry(v, 0), U);
        each("carry(0, v)", NO_CHANGE, (x, v) -> x.carry(0, v), U);
        each("carry(1, v), it is in it", new int[] {0, 1, 2, 3}, (x, v) -> x.carry(1, v), N);
    }

    private static void pairsOfChanges() {
        Runs.about("promise 19: UNKNOWN (one twice), NOT: one is in it");
        each("apart(v, 2, 3)", NO_LINE, (x, v) -> x.apart(v, 2, 3), U);
        each("apart(0, v, 3)", NO_CHANGE, (x, v) -> x.apart(0, v, 3), U);
        each("apart(0, 3, v)", NO_CHANGE, (x, v) -> x.apart(0, 3, v), U);
        each("apart(0, v, v)", new int[] {2, 3, 4, 5}, (x, v) -> x.apart(0, v, v), U);
        each("apart(0, v, 3), one is in it", new int[] {0, 1}, (x, v) -> x.apart(0, v, 3), N);
        each("apart(0, 3, v), one is in it", new int[] {0, 1}, (x, v) -> x.apart(0, 3, v), N);
        refused("apart(0, 0, 1): both are in it", x -> x.apart(0, 0, 1), N);
        each("apart(0, v, v): UNKNOWN ahead of NOT", new int[] {0, 1}, (x, v) -> x.apart(0, v, v), U);
        each("apart(0, 0, v): UNKNOWN ahead of NOT", NO_CHANGE, (x, v) -> x.apart(0, 0, v), U);
        each("apart(0, v, 0): UNKNOWN ahead of NOT", NO_CHANGE, (x, v) -> x.apart(0, v, 0), U);
    }

    // ---- fixes

    private static void fixes() {
        Runs.about("promise 20: UNKNOWN");
        each("cost(v, 0)", NO_LINE, (x, v) -> x.cost(v, 0), U);
        each("cost(2, v)", new int[] {8, 9, 16, 1024, -1, -8, MIN, MAX}, (x, v) -> x.cost(2, v), U);
        refusedFull("cost(0, 1024)", x -> x.cost(0, 1024), U);
        refused("cost(2, 7): NONE", x -> x.cost(2, 7), CarriedBack.NONE);
        Runs.about("promise 21: UNKNOWN, OUTSIDE (n 0 .. 24, r 0 .. 99)");
        each("best(v, 1, 9, 0)", NO_LINE, (x, v) -> x.best(v, 1, 9, 0), U);
        each("best(v, 25, 100, 3)", NO_LINE, (x, v) -> x.best(v, 25, 100, 3), U);
        each("best(2, v, 9, 0)", new int[] {-1, 25, 26, MIN, MAX}, (x, v) -> x.best(2, v, 9, 0), O);
        each("best(2, 1, v, 0)", new int[] {-1, 100, 101, MIN, MAX}, (x, v) -> x.best(2, 1, v, 0), O);
        each("best(2, 1, 9, v)", new int[] {-1, 3, 4, MIN, MAX}, (x, v) -> x.best(2, 1, 9, v), O);
        Runs.about("promise 22: UNKNOWN, OUTSIDE (n 0 .. 24)");
        each("later(v, 0)", NO_LINE, (x, v) -> x.later(v, 0), U);
        each("later(v, 25)", NO_LINE, (x, v) -> x.later(v, 25), U);
        each("later(2, v)", new int[] {-1, 25, 26, MIN, MAX}, (x, v) -> x.later(2, v), O);
    }

    // ---- releases

    private static void releases() {
        Runs.about("promise 23: UNKNOWN, OUTSIDE, NOT: the DAY is earlier than the last one's; FULL");
        each("release(v, 20)", NO_LINE, (x, v) -> x.release(v, 20), U);
        each("release(0, v)", NO_DAY, (x, v) -> x.release(0, v), O);
        each("release(0, v)", new int[] {0, 5, 18, 19}, (x, v) -> x.release(0, v), N);
        refusedFull("release(0, 998)", x -> x.release(0, 998), F);
        refusedFull("release(3, 999)", x -> x.release(3, 999), F);
        each("release(v, 1000): UNKNOWN ahead of OUTSIDE", NO_LINE, (x, v) -> x.release(v, 1000), U);
        each("release(v, 19): UNKNOWN ahead of NOT", NO_LINE, (x, v) -> x.release(v, 19), U);
        refused("release(0, -1): OUTSIDE ahead of NOT", x -> x.release(0, -1), O);
        refusedFull("release(4, 998): UNKNOWN ahead of FULL", x -> x.release(4, 998), U);
        refusedFull("release(4, 997): UNKNOWN ahead of NOT, FULL", x -> x.release(4, 997), U);
        refusedFull("release(4, -1): UNKNOWN ahead of all", x -> x.release(4, -1), U);
        refusedFull("release(0, 1000): OUTSIDE ahead of FULL", x -> x.release(0, 1000), O);
        refusedFull("release(0, -1): OUTSIDE ahead of NOT, FULL", x -> x.release(0, -1), O);
        refusedFull("release(0, 997): NOT ahead of FULL", x -> x.release(0, 997), N);
        Runs.about("promise 24: UNKNOWN, OUTSIDE");
        each("released(v, 0)", NO_RELEASE, (x, v) -> x.released(v, 0), U);
        each("released(v, 4)", NO_RELEASE, (x, v) -> x.released(v, 4), U);
        each("released(3, v)", new int[] {-1, 4, 5, MIN, MAX}, (x, v) -> x.released(3, v), O);
        refusedFull("released(20, 0)", x -> x.released(20, 0), U);
    }

    private static void twoReleases() {
        Runs.about("promise 25: UNKNOWN, OUTSIDE");
        each("notes(v, 3, 0)", NO_RELEASE, (x, v) -> x.notes(v, 3, 0), U);
        each("notes(3, v, 0)", NO_RELEASE, (x, v) -> x.notes(3, v, 0), U);
        each("notes(v, 3, 4)", NO_RELEASE, (x, v) -> x.notes(v, 3, 4), U);
        each("notes(3, v, -1)", NO_RELEASE, (x, v) -> x.notes(3, v, -1), U);
        each("notes(0, 3, v)", new int[] {-1, 4, 5, MIN, MAX}, (x, v) -> x.notes(0, 3, v), O);
        Runs.about("promise 26: UNKNOWN");
        each("differs(v, 3)", NO_RELEASE, (x, v) -> x.differs(v, 3), U);
        each("differs(3, v)", NO_RELEASE, (x, v) -> x.differs(3, v), U);
        each("differs(v, v)", NO_RELEASE, (x, v) -> x.differs(v, v), U);
    }

    private static void faultsOfReleases() {
        Runs.about("promise 27: UNKNOWN");
        each("freed(v, 0)", NO_FAULT, (x, v) -> x.freed(v, 0), U);
        each("freed(0, v)", NO_LINE, (x, v) -> x.freed(0, v), U);
        Runs.about("promise 28: UNKNOWN, OUTSIDE (DAYS, b below a)");
        each("danger(v, 0, 9)", NO_FAULT, (x, v) -> x.danger(v, 0, 9), U);
        each("danger(v, -1, 9)", NO_FAULT, (x, v) -> x.danger(v, -1, 9), U);
        each("danger(v, 9, 8)", NO_FAULT, (x, v) -> x.danger(v, 9, 8), U);
        each("danger(v, 0, 1000)", NO_FAULT, (x, v) -> x.danger(v, 0, 1000), U);
        each("danger(0, v, 999)", NO_DAY, (x, v) -> x.danger(0, v, 999), O);
        each("danger(0, 0, v)", NO_DAY, (x, v) -> x.danger(0, 0, v), O);
        each("danger(0, v, v)", NO_DAY, (x, v) -> x.danger(0, v, v), O);
        each("danger(0, 9, v), b below a", new int[] {8, 1, 0}, (x, v) -> x.danger(0, 9, v), O);
    }

    private static void trains() {
        Runs.about("promise 29: UNKNOWN, OUTSIDE");
        each("every(v, 5)", NO_LINE, (x, v) -> x.every(v, 5), U);
        each("every(v, 100)", NO_LINE, (x, v) -> x.every(v, 100), U);
        each("every(0, v)", new int[] {-1, 100, 101, MIN, MAX}, (x, v) -> x.every(0, v), O);
        Runs.about("promise 30: UNKNOWN, OUTSIDE");
        each("soonest(v, 5)", NO_FAULT, (x, v) -> x.soonest(v, 5), U);
        each("soonest(v, 1000)", NO_FAULT, (x, v) -> x.soonest(v, 1000), U);
        each("soonest(0, v)", NO_DAY, (x, v) -> x.soonest(0, v), O);
        CarriedBack x = Runs.of(TrunkTest.TRUNK);
        Runs.due("soonest(0, 5), no line has it", x.soonest(0, 5), CarriedBack.NOBODY);
        Runs.due("soonest(0, 1000), no line has it", x.soonest(0, 1000), O);
    }

    // ---- ready, whence, ways up

    private static void ready() {
        Runs.about("promise 31: UNKNOWN");
        each("ready(v, false)", NO_LINE, (x, v) -> x.ready(v, false), U);
        each("ready(v, true)", NO_LINE, (x, v) -> x.ready(v, true), U);
    }

    private static void orders() {
        int[] noSets = {64, 65, 1 << 24, 1 << 30, -1, -64, MIN, MAX};
        Runs.about("promise 32: UNKNOWN (bits), NOT: one is in it, or more than 8");
        each("orders(v, 0)", NO_LINE, (x, v) -> x.orders(v, 0), U);
        each("orders(v, 1)", NO_LINE, (x, v) -> x.orders(v, 1), U);
        each("orders(0, v): UNKNOWN, ahead of NOT, too", noSets, (x, v) -> x.orders(0, v), U);
        each("orders(0, v), one is in it", new int[] {1, 2, 3, 5, 63}, (x, v) -> x.orders(0, v), N);
        refusedFull("orders(0, 511), nine", x -> x.orders(0, 511), N);
        refusedFull("orders(0, all)", x -> x.orders(0, 0xffffff), N);
        refusedFull("orders(0, one too many): UNKNOWN ahead of NOT", x -> x.orders(0, 0x1ffffff), U);
        Runs.about("promise 33: UNKNOWN, OUTSIDE (i below 0), NOT");
        each("order(v, 4, 0, 0)", NO_LINE, (x, v) -> x.order(v, 4, 0, 0), U);
        each("order(v, 4, -1, 0): UNKNOWN ahead of OUTSIDE", NO_LINE, (x, v) -> x.order(v, 4, -1, 0), U);
        each("order(v, 1, 0, 0)", NO_LINE, (x, v) -> x.order(v, 1, 0, 0), U);
        each("order(0, v, 0, 0): UNKNOWN, ahead of NOT, too", noSets, (x, v) -> x.order(0, v, 0, 0), U);
        each("order(0, v, -1, 0): UNKNOWN ahead of all", noSets, (x, v) -> x.order(0, v, -1, 0), U);
        each("order(0, 4, v, 0), i below 0", new int[] {-1, -2, MIN}, (x, v) -> x.order(0, 4, v, 0), O);
        each("order(0, 5, v, 0): OUTSIDE ahead of NOT", new int[] {-1, -2, MIN}, (x, v) -> x.order(0, 5, v, 0), O);
        each("order(0, v, 0, 0), one is in it", new int[] {1, 2, 3, 5, 63}, (x, v) -> x.order(0, v, 0, 0), N);
        each("order(0, 5, v, 0): NOT, whichever i", new int[] {1, 9, MAX}, (x, v) -> x.order(0, 5, v, 0), N);
        refusedFull("order of nine", x -> x.order(0, 511, 0, 0), N);
        refusedFull("order of nine, i below 0: OUTSIDE ahead of NOT", x -> x.order(0, 511, -1, 0), O);
    }

    private static void valuesOfLines() {
        Runs.about("promise 34: UNKNOWN");
        each("whence(v, 0)", NO_LINE, (x, v) -> x.whence(v, 0), U);
        each("whence(0, v)", NO_SLOT, (x, v) -> x.whence(0, v), U);
        each("whence(2, v)", NO_SLOT, (x, v) -> x.whence(2, v), U);
        Runs.about("promise 35: UNKNOWN");
        each("strayed(v)", NO_LINE, (x, v) -> x.strayed(v), U);
    }

    private static void cuts() {
        Runs.about("promise 36: OUTSIDE (a, b 0 .. how many CHANGES, b not less)");
        each("bestCut(v, 6, 0)", new int[] {-1, 7, 8, MIN, MAX}, (x, v) -> x.bestCut(v, 6, 0), O);
        each("bestCut(0, v, 0)", new int[] {-1, 7, 8, 25, MIN, MAX}, (x, v) -> x.bestCut(0, v, 0), O);
        each("bestCut(v, v, 0)", new int[] {-1, 7, MIN, MAX}, (x, v) -> x.bestCut(v, v, 0), O);
        each("bestCut(5, v, 0), b less", new int[] {4, 1, 0}, (x, v) -> x.bestCut(5, v, 0), O);
        each("bestCut(0, 6, v)", new int[] {-1, 2, 3, MIN, MAX}, (x, v) -> x.bestCut(0, 6, v), O);
    }

    private static void waysUp() {
        Runs.about("promise 37: UNKNOWN, OUTSIDE, NOT: it is FREE");
        each("up(v, 0, 0)", NO_RELEASE, (x, v) -> x.up(v, 0, 0), U);
        each("up(0, v, 0)", NO_FAULT, (x, v) -> x.up(0, v, 0), U);
        each("up(v, 0, 2): UNKNOWN ahead of OUTSIDE", NO_RELEASE, (x, v) -> x.up(v, 0, 2), U);
        each("up(2, v, 2): UNKNOWN ahead of all", NO_FAULT, (x, v) -> x.up(2, v, 2), U);
        each("up(2, v, 0): UNKNOWN ahead of NOT", NO_FAULT, (x, v) -> x.up(2, v, 0), U);
        each("up(0, 0, v)", new int[] {-1, 2, 3, MIN, MAX}, (x, v) -> x.up(0, 0, v), O);
        each("up(2, 0, v): OUTSIDE ahead of NOT", new int[] {-1, 2, 3, MIN, MAX}, (x, v) -> x.up(2, 0, v), O);
        each("up(2, 0, v), it is free", new int[] {0, 1}, (x, v) -> x.up(2, 0, v), N);
        Runs.about("promise 38: UNKNOWN, OUTSIDE (what, with i = NONE, too)");
        each("spans(v, 0, 0, 0)", NO_FAULT, (x, v) -> x.spans(v, 0, 0, 0), U);
        each("spans(0, v, 0, 0)", NO_LINE, (x, v) -> x.spans(0, v, 0, 0), U);
        each("spans(v, 0, -1, 2): UNKNOWN ahead of OUTSIDE", NO_FAULT, (x, v) -> x.spans(v, 0, -1, 2), U);
        each("spans(0, v, -1, 2): UNKNOWN ahead of OUTSIDE", NO_LINE, (x, v) -> x.spans(0, v, -1, 2), U);
        each("spans(0, 0, 0, v)", new int[] {-1, 2, 3, MIN, MAX}, (x, v) -> x.spans(0, 0, 0, v), O);
        each("spans(0, 0, -1, v)", new int[] {-1, 2, 3, MIN, MAX}, (x, v) -> x.spans(0, 0, -1, v), O);
        each("spans(0, 0, 9, v)", new int[] {-1, 2, 3, MIN, MAX}, (x, v) -> x.spans(0, 0, 9, v), O);
    }

    private static void policy() {
        Runs.about("promise 39: UNKNOWN, OUTSIDE, NOT: it is IMPOSSIBLE");
        each("lets(v, 2, 5)", NO_LINE, (x, v) -> x.lets(v, 2, 5), U);
        each("lets(0, v, 5)", NO_CHANGE, (x, v) -> x.lets(0, v, 5), U);
        each("lets(v, 2, 1000): UNKNOWN ahead of OUTSIDE", NO_LINE, (x, v) -> x.lets(v, 2, 1000), U);
        each("lets(0, v, -1): UNKNOWN ahead of OUTSIDE", NO_CHANGE, (x, v) -> x.lets(0, v, -1), U);
        each("lets(v, 0, 5): UNKNOWN ahead of NOT", NO_LINE, (x, v) -> x.lets(v, 0, 5), U);
        each("lets(0, 2, v)", NO_DAY, (x, v) -> x.lets(0, 2, v), O);
        each("lets(0, 0, v): OUTSIDE ahead of NOT", NO_DAY, (x, v) -> x.lets(0, 0, v), O);
        each("lets(1, v, 5), it is in it", new int[] {0, 1, 2, 3}, (x, v) -> x.lets(1, v, 5), N);
        each("lets(0, 0, v), NOT on a day of a freeze, too", new int[] {9, 10, 20}, (x, v) -> x.lets(0, 0, v), N);
        refused("lets(1, 0, 10), NOT on a line that is not let, too", x -> x.lets(1, 0, 10), N);
    }

    // ---- images

    private static void images() {
        Runs.about("promise 40: UNKNOWN");
        each("keep(v)", NO_IMAGE, (x, v) -> x.keep(v), U);
        for (int v : NO_IMAGE) {
            in(TWO_IMAGES, "keep(" + v + ")", x -> x.keep(v), U);
            in(TWO_IMAGES, "goBack(" + v + ")", x -> x.goBack(v), U);
        }
        Runs.about("promise 41: UNKNOWN, NOT: it was not kept");
        each("goBack(v)", NO_IMAGE, (x, v) -> x.goBack(v), U);
        refused("goBack(1)", x -> x.goBack(1), N);
        refusedFull("goBack(0)", x -> x.goBack(0), N);
        refusedFull("goBack(1)", x -> x.goBack(1), N);
    }

    /** In a new object there is none of anything, so that the first number is refused. */
    private static void newOnes() {
        Runs.about("promise 1: THE TRUNK is empty");
        Runs.Call[] unknown = {x -> x.change(0, 0), x -> x.change(0, -1), x -> x.sets(0, 0), x -> x.ahead(1, 0),
            x -> x.fault(0, 0), x -> x.fault(0, 9), x -> x.line(0, 0), x -> x.line(0, 9), x -> x.value(0, 0),
            x -> x.clash(0, 0), x -> x.pick(0, 0), x -> x.undo(0, 0), x -> x.needs(0, 0), x -> x.carry(0, 0),
            x -> x.apart(0, 0, 1), x -> x.cost(0, 0), x -> x.best(0, 0, 0, 0), x -> x.later(0, 0),
            x -> x.release(0, 0), x -> x.released(0, 0), x -> x.notes(0, 0, 0), x -> x.differs(0, 0),
            x -> x.freed(0, 0), x -> x.danger(0, 0, 0), x -> x.every(0, 0), x -> x.soonest(0, 0),
            x -> x.ready(0, false), x -> x.ready(0, true), x -> x.orders(0, 0), x -> x.order(0, 0, 0, 0),
            x -> x.whence(0, 0), x -> x.strayed(0), x -> x.up(0, 0, 0), x -> x.spans(0, 0, -1, 0),
            x -> x.lets(0, 0, 0)};
        for (int k = 0; k < unknown.length; k++) {
            in(MADE_NEW, "call " + k + " of those that ask for what there is not", unknown[k], U);
        }
        in(MADE_NEW, "cut(1)", x -> x.cut(1), O);
        in(MADE_NEW, "bestCut(0, 1, 0)", x -> x.bestCut(0, 1, 0), O);
        in(MADE_NEW, "goBack(0)", x -> x.goBack(0), N);
        in(MADE_NEW, "goBack(1)", x -> x.goBack(1), N);
    }
}
