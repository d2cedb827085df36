import java.util.List;

/**
 * The first part of the terms and promises 1 to 10 at their edges. What a test is about is the document's
 * sentence; beside what is just inside stands what is just outside.
 */
public final class TrunkEdgesTest {
    private static final int FINE = 0;
    private static final String ALL_SLOTS = "0 1,1 1,2 1,3 1,4 1,5 1,6 1,7 1,8 1,9 1,10 1,11 1,12 1,13 1,14 1,15 1";
    private static final String ALL_READ = "0,1,2,3,4,5,6,7,8,9,10,11,12,13,14,15";

    private TrunkEdgesTest() {
    }

    public static void main(String[] args) {
        newObject();
        fiveHundredAndTwelveCalls();
        slotsHoldZeroAtFirst();
        oneToEightBytes();
        lowestBytesHighestFirst();
        fiveHundredBytes();
        textOfFiveHundredBytes();
        twentyFourChanges();
        tenFaults();
        numbersOfTheTrunk();
        changesThatWereTold();
        numbersOfThePolicy();
        words();
        everyByteAsBlankOrSign();
        everyByteInANumber();
        blanks();
        numbersSideBySide();
        firstByteThatHasOne();
        leastOfThese();
        endOfTheText();
        slotsOnce();
        emptyText();
        breachesOfATrunkLeaveAll();
        breachesOfAPolicyLeaveAll();
        aTrunkTakesLinesAndImages();
        oneHundredAndTwentyBytes();
        clausesOfAPolicy();
        eightFreezes();
        onceAlone();
        linesOnce();
        latestBreach();
        whatIsToldOfChanges();
        lastOnes();
        Runs.close();
    }

    // ---- what the tests share

    /** A trunk's text: how many changes it tells if breach is FINE, else the breach and its byte. */
    private static void trunk(String text, int breach, int changesOrByte) {
        CarriedBack x = new CarriedBack();
        boolean fine = breach == FINE;
        Runs.due("trunk() of '" + text + "'", Runs.trunk(x, text), fine ? changesOrByte : -10 - breach);
        Runs.due("breach() of '" + text + "'", x.breach(), fine ? CarriedBack.NONE : changesOrByte);
        Runs.due("count(0) of '" + text + "'", x.count(0), fine ? changesOrByte : 0);
        Runs.due("count(4) of '" + text + "'", x.count(4), 0);
    }

    /** A policy's text: how many clauses it tells if breach is FINE, else the breach and its byte. */
    private static void policy(String text, int breach, int clausesOrByte) {
        CarriedBack x = new CarriedBack();
        boolean fine = breach == FINE;
        Runs.due("policy() of '" + text + "'", Runs.policy(x, text), fine ? clausesOrByte : -10 - breach);
        Runs.due("breach() of '" + text + "'", x.breach(), fine ? CarriedBack.NONE : clausesOrByte);
        Runs.due("count(4) of '" + text + "'", x.count(4), 0);
    }

    private interface Text {
        void told(String text, int breach, int answer);
    }

    /** Numbers around the bounds of a place, each with up to four figures: inside one clause more is told. */
    private static void place(String head, String tail, int least, int most, int figures, int answer, Text text) {
        for (int n = 0; n <= 1010; n = n == 130 ? 480 : n == 520 ? 980 : n + 1) {
            for (int width = 1; width <= 4; width++) {
                String number = String.format("%0" + width + "d", n);
                if (number.length() == width) {
                    boolean inside = width <= figures && n >= least && n <= most;
                    text.told(head + number + tail, inside ? FINE : 2, inside ? answer : head.length());
                }
            }
        }
    }

    // ---- a new object, slots, bytes

    private static void newObject() {
        Runs.about("promise 1: THE TRUNK is empty");
        CarriedBack x = new CarriedBack();
        for (int what = 0; what <= 4; what++) {
            Runs.due("count(" + what + ")", x.count(what), 0);
        }
        Runs.due("breach(), none yet", x.breach(), CarriedBack.NONE);
        Runs.due("bestCut(0, 0, 0)", x.bestCut(0, 0, 0), 0);
        Runs.due("bestCut(0, 0, 1)", x.bestCut(0, 0, 1), 0);
        Runs.due("cut(0)", x.cut(0), 0);
        for (int what = 0; what <= 4; what++) {
            Runs.due("line(0, " + what + ")", x.line(0, what), 0);
        }
        Runs.due("best(0, 24, 99, 0)", x.best(0, 24, 99, 0), 0);
        Runs.due("later(0, 24)", x.later(0, 24), 0);
        Runs.due("ready(0, true)", x.ready(0, true), 0);
        Runs.due("orders(0, 0)", x.orders(0, 0), 1);
        Runs.due("orders(0, 1)", x.orders(0, 1), CarriedBack.UNKNOWN);
        Runs.due("strayed(0)", x.strayed(0), 0);
        Runs.due("release(0, 0)", x.release(0, 0), 0);
        Runs.due("released(0, 2)", x.released(0, 2), 0);
        Runs.about("terms 4: None told: all is let that is not IMPOSSIBLE");
        CarriedBack y = Runs.of("change risk 9;".repeat(12));
        for (int l = 0; l < 4; l++) {
            y.cut(0);
            Runs.due("lets(" + l + ", 0, 0)", y.lets(l, 0, 0), 1);
            Runs.due("lets(" + l + ", 11, 999)", y.lets(l, 11, 999), 1);
        }
    }

    private static void fiveHundredAndTwelveCalls() {
        Runs.about("what it is: An object is used for at most 512 calls after it has been made");
        CarriedBack x = new CarriedBack();
        x.feed(8, 0x6368616e67653b20L);
        x.trunk();
        x.cut(0);
        x.keep(1);
        for (int call = 5; call <= 508; call += 2) {
            Runs.due("call " + call, x.pick(0, 0), 1);
            Runs.due("call " + (call + 1), x.undo(0, 0), 0);
        }
        Runs.due("call 509", x.carry(0, 0), 1);
        Runs.due("call 510", x.release(0, 999), 0);
        Runs.due("call 511", x.goBack(1), 1);
        Runs.due("call 512", x.ready(0, true), 1);
    }

    private static void slotsHoldZeroAtFirst() {
        Runs.about("terms 1: SLOTS 0 to 15 hold values; each holds 0 at first");
        CarriedBack x = new CarriedBack();
        x.cut(0);
        for (int s = 0; s <= 15; s++) {
            Runs.due("ahead(0, " + s + ")", x.ahead(0, s), 0);
            Runs.due("value(0, " + s + ")", x.value(0, s), 0);
            Runs.due("whence(0, " + s + ")", x.whence(0, s), CarriedBack.NONE);
        }
        CarriedBack y = Runs.of("change sets " + ALL_SLOTS + ";change reads " + ALL_READ + ";");
        y.cut(0);
        y.cut(1);
        for (int s = 0; s <= 15; s++) {
            Runs.due("ahead(0, " + s + ")", y.ahead(0, s), 0);
            Runs.due("ahead(1, " + s + ")", y.ahead(1, s), 1);
            Runs.due("sets(0, " + s + ")", y.sets(0, s), 1);
            Runs.due("sets(1, " + s + ")", y.sets(1, s), 0);
            Runs.due("value(0, " + s + ")", y.value(0, s), 0);
            Runs.due("value(1, " + s + ")", y.value(1, s), 1);
        }
        Runs.due("clash(0, 1)", y.clash(0, 1), 0xffff);
    }

    private static void oneToEightBytes() {
        Runs.about("promise 2: The lowest n bytes (1 .. 8): how many it has. OUTSIDE");
        CarriedBack x = new CarriedBack();
        int held = 0;
        for (int n = 1; n <= 8; n++) {
            held += n;
            Runs.due("feed(" + n + ", 0)", x.feed(n, 0), held);
            Runs.due("feed(0, 0)", x.feed(0, 0), CarriedBack.OUTSIDE);
            Runs.due("feed(9, 0)", x.feed(9, 0), CarriedBack.OUTSIDE);
            Runs.due("count(4)", x.count(4), held);
        }
    }

    private static void lowestBytesHighestFirst() {
        Runs.about("promise 2: The lowest n bytes of a long, the highest of these first");
        String text = "change;change sets 1 2;change risk 3;";
        for (int n = 1; n <= 8; n++) {
            for (long above : new long[] {0, -1, 0x3b3b3b3b3b3b3b3bL}) {
                CarriedBack x = new CarriedBack();
                for (int from = 0; from < text.length(); from += n) {
                    long packed = above;
                    for (int k = from; k < from + n; k++) {
                        packed = packed << 8 | (k < text.length() ? text.charAt(k) : ' ');
                    }
                    x.feed(n, packed);
                }
                Runs.due("trunk(), fed by " + n + " behind " + above, x.trunk(), 3);
                Runs.due("sets(1, 1), fed by " + n, x.sets(1, 1), 2);
                Runs.due("change(2, 2), fed by " + n, x.change(2, 2), 3);
            }
        }
        CarriedBack y = new CarriedBack();
        y.feed(8, 0xe368616e67653b20L);
        Runs.due("a byte of 128 more than a letter is none", y.trunk(), -11);
        Runs.due("breach()", y.breach(), 0);
        y.feed(8, Long.MIN_VALUE);
        Runs.due("the highest bit", y.trunk(), -11);
        Runs.due("breach()", y.breach(), 0);
    }

    private static void fiveHundredBytes() {
        Runs.about("promise 2: FULL (500)");
        for (int held = 490; held <= 500; held++) {
            for (int n = 1; n <= 8; n++) {
                CarriedBack x = new CarriedBack();
                Runs.feed(x, "change;" + " ".repeat(held - 7));
                int due = held + n <= 500 ? held + n : CarriedBack.FULL;
                Runs.due("feed(" + n + ", ..) at " + held, x.feed(n, 0x2020202020202020L), due);
                Runs.due("count(4) behind " + n + " at " + held, x.count(4), due < 0 ? held : due);
                Runs.due("trunk() behind " + n + " at " + held, x.trunk(), 1);
            }
        }
        Runs.about("promise 2: what is FULL changes nothing, not the part that has room, either");
        CarriedBack y = new CarriedBack();
        Runs.feed(y, "change;" + " ".repeat(489));
        Runs.due("feed(8, xxxxxxxx) at 496", y.feed(8, 0x7878787878787878L), CarriedBack.FULL);
        Runs.due("feed(4, blanks)", y.feed(4, 0x20202020L), 500);
        Runs.due("trunk()", y.trunk(), 1);
    }

    private static void textOfFiveHundredBytes() {
        Runs.about("terms 1: THE TRUNK is told in a text (500 bytes at most)");
        String told = "change risk 1; change risk 2; ".repeat(11) + "fault 1 from 0;".repeat(9)
            + "fault 77 from 1 till 21";
        String text = told + " ".repeat(499 - told.length()) + ";";
        Runs.due("bytes of the text", text.length(), 500);
        CarriedBack x = new CarriedBack();
        Runs.due("trunk()", Runs.trunk(x, text), 22);
        Runs.due("fault(9, 0)", x.fault(9, 0), 77);
        Runs.due("fault(9, 2)", x.fault(9, 2), 21);
        trunk(text.substring(0, 499), 1, 499);
        trunk(text.substring(0, 499) + " ", 1, 500);
        trunk(text.substring(0, 499) + "x", 1, 499);
        trunk(" ".repeat(493) + "change;", FINE, 1);
        trunk(" ".repeat(494) + "change", 1, 500);
        trunk(" ".repeat(499) + ";", 1, 499);
        trunk(" ".repeat(500), FINE, 0);
    }

    // ---- how many, and how great

    private static void twentyFourChanges() {
        Runs.about("terms 1: CHANGES (24 at most). BREACH 3: a 25th CHANGE (at the clause's first letter)");
        for (int n = 0; n <= 24; n++) {
            trunk("change;".repeat(n), FINE, n);
        }
        trunk("change;".repeat(25), 3, 168);
        trunk("change;".repeat(26), 3, 168);
        trunk("change;".repeat(24) + "   change;", 3, 171);
        trunk("change;".repeat(24) + "change", 3, 168);
        trunk("change;".repeat(24) + "change sets 16 1;", 3, 168);
        trunk("change;".repeat(24) + "fault 1 from 23;change;", 3, 184);
        trunk("change;".repeat(24) + ";", 1, 168);
        CarriedBack x = Runs.of("change;".repeat(23) + "change sets 15 99 reads 0 risk 9;");
        Runs.due("sets(23, 15)", x.sets(23, 15), 99);
        Runs.due("change(23, 1)", x.change(23, 1), 1);
        Runs.due("change(23, 2)", x.change(23, 2), 9);
        Runs.due("change(24, 2)", x.change(24, 2), CarriedBack.UNKNOWN);
        Runs.due("ahead(24, 15)", x.ahead(24, 15), 99);
    }

    private static void tenFaults() {
        Runs.about("terms 1: FAULTS (10 at most). BREACH 3: an 11th FAULT (at the clause's first letter)");
        for (int n = 0; n <= 10; n++) {
            String text = "change;" + "fault 1 from 0;".repeat(n);
            trunk(text, FINE, 1);
            Runs.due("count(1), " + n, Runs.of(text).count(1), n);
        }
        String ten = "change;" + "fault 1 from 0;".repeat(10);
        trunk(ten + "fault 1 from 0;", 3, 157);
        trunk(ten + "  fault 1 from 0;", 3, 159);
        trunk(ten + "fault", 3, 157);
        trunk(ten + "fault 100 from 99;", 3, 157);
        trunk(ten + "change;fault 1 from 1;", 3, 164);
        trunk(ten + "change;", FINE, 2);
        trunk("change;".repeat(24) + "fault 1 from 0;".repeat(10), FINE, 24);
        trunk("change;".repeat(24) + "fault 1 from 0;".repeat(10) + "change;", 3, 318);
        trunk("change;".repeat(24) + "fault 1 from 0;".repeat(10) + "fault 1 from 0;", 3, 318);
        trunk("change;".repeat(24) + "fault 1 from 0;".repeat(10) + "else;", 1, 318);
        CarriedBack x = Runs.of("change;change;" + "fault 1 from 0;".repeat(9) + "fault 99 from 0 till 1;");
        Runs.due("fault(9, 0)", x.fault(9, 0), 99);
        Runs.due("fault(9, 2)", x.fault(9, 2), 1);
        Runs.due("fault(10, 0)", x.fault(10, 0), CarriedBack.UNKNOWN);
    }

    private static void numbersOfTheTrunk() {
        Runs.about("terms 1: NUMBERS have one or two figures. BREACH 2: a NUMBER of three figures or more, or out"
            + " of its bounds (at its first)");
        Text trunk = TrunkEdgesTest::trunk;
        place("change sets ", " 1;", 0, 15, 2, 1, trunk);
        place("change sets 3 ", ";", 1, 99, 2, 1, trunk);
        place("change sets 3 1,4 ", ";", 1, 99, 2, 1, trunk);
        place("change reads ", ";", 0, 15, 2, 1, trunk);
        place("change risk ", ";", 0, 9, 2, 1, trunk);
        place("change;fault ", " from 0;", 1, 99, 2, 1, trunk);
        trunk("change sets 000000000000000000000000000000000000005 1;", 2, 12);
        trunk("change sets 4294967296 1;", 2, 12);
        trunk("change sets 18446744073709551617 1;", 2, 12);
        CarriedBack x = Runs.of("change sets 00 01,15 99 reads 09 risk 09;");
        Runs.due("change(0, 0)", x.change(0, 0), 0x8001);
        Runs.due("sets(0, 0)", x.sets(0, 0), 1);
        Runs.due("sets(0, 15)", x.sets(0, 15), 99);
        Runs.due("change(0, 1)", x.change(0, 1), 512);
        Runs.due("change(0, 2)", x.change(0, 2), 9);
        Runs.about("terms 1: a RISK R (0 .. 9; 0 untold)");
        Runs.due("change(0, 2)", Runs.of("change;").change(0, 2), 0);
        Runs.due("change(1, 2)", Runs.of("change risk 9;change;").change(1, 2), 0);
    }

    private static void changesThatWereTold() {
        Runs.about("terms 1: come with CHANGE C and go with a later one (both told ahead). BREACH 2: of a CHANGE that"
            + " was not told yet, or is not later (at its first)");
        Text trunk = TrunkEdgesTest::trunk;
        place("change;change;change;change;change;fault 1 from ", ";", 0, 4, 2, 5, trunk);
        place("change;".repeat(24) + "fault 1 from ", ";", 0, 23, 2, 24, trunk);
        place("change;change;change;change;change;fault 1 from 2 till ", ";", 3, 4, 2, 5, trunk);
        place("change;".repeat(24) + "fault 1 from 0 till ", ";", 1, 23, 2, 24, trunk);
        place("change;".repeat(24) + "fault 1 from 22 till ", ";", 23, 23, 2, 24, trunk);
        place("change;".repeat(24) + "fault 1 from 23 till ", ";", 24, 23, 2, 24, trunk);
        trunk("fault 1 from 0;change;", 2, 13);
        trunk("change;fault 1 from 1;change;", 2, 20);
        trunk("change;fault 1 from 0 till 1;change;", 2, 27);
        trunk("change;change;fault 1 from 0 till 1;", FINE, 2);
        CarriedBack x = Runs.of("change;change;fault 1 from 0;fault 2 from 0 till 1;");
        Runs.due("fault(0, 2): none is told", x.fault(0, 2), CarriedBack.NONE);
        Runs.due("fault(1, 2)", x.fault(1, 2), 1);
    }

    private static void numbersOfThePolicy() {
        Runs.about("terms 4: NUMBERS have one to three figures here. BREACH 2 (E less than D, too: at E)");
        Text policy = TrunkEdgesTest::policy;
        place("freeze ", " 999;", 0, 999, 3, 1, policy);
        place("freeze 0 ", ";", 0, 999, 3, 1, policy);
        place("freeze 500 ", ";", 500, 999, 3, 1, policy);
        place("freeze 999 ", ";", 999, 999, 3, 1, policy);
        place("risk ", ";", 0, 99, 3, 1, policy);
        place("weigh ", ";", 0, 99, 3, 1, policy);
        place("only ", ";", 0, 3, 3, 1, policy);
        policy("freeze 5 4;", 2, 9);
        policy("freeze 5 5;", FINE, 1);
        policy("freeze 4294967296 5;", 2, 7);
    }

    // ---- words, numbers, blanks

    private static void words() {
        Runs.about("terms 1: words are letters a .. z side by side. BREACH 1: it cannot stand there (a word that"
            + " cannot: at its first letter)");
        String[] never = {"chang;", "changee;", "cchange;", "chan ge;", "change_;", "a;", "z;", "fault;", "sets 0 1;"};
        int[] at = {0, 0, 0, 0, 6, 0, 0, 5, 0};
        for (int k = 0; k < never.length; k++) {
            trunk(never[k], 1, at[k]);
        }
        trunk("change set 0 1;", 1, 7);
        trunk("change setss 0 1;", 1, 7);
        trunk("change read 0;", 1, 7);
        trunk("change readss 0;", 1, 7);
        trunk("change ris 0;", 1, 7);
        trunk("change riskk 0;", 1, 7);
        trunk("change;fault 1 fro 0;", 1, 15);
        trunk("change;fault 1 fromm 0;", 1, 15);
        trunk("change;change;fault 1 from 0 til 1;", 1, 29);
        trunk("change;change;fault 1 from 0 tilll 1;", 1, 29);
        trunk("change;faul 1 from 0;", 1, 7);
        trunk("change;faultt 1 from 0;", 1, 7);
        policy("freez 1 2;", 1, 0);
        policy("freezee 1 2;", 1, 0);
        policy("ris 1;", 1, 0);
        policy("riskk 1;", 1, 0);
        policy("weig 1;", 1, 0);
        policy("weighh 1;", 1, 0);
        policy("onl 1;", 1, 0);
        policy("onlyy 1;", 1, 0);
        policy("till 1;", 1, 0);
        policy("sets 1 1;", 1, 0);
        Runs.about("terms 1: two words side by side need a blank");
        trunk("changerisk 1;", 1, 0);
        trunk("change risk 1;", FINE, 1);
        trunk("changereads 1;", 1, 0);
        trunk("change;fault1from0till;", 1, 22);
        trunk("change;change;fault1from0till1;", FINE, 2);
        policy("risk1;weigh1;only1;freeze1 1;", FINE, 4);
    }

    /** Each byte at a place behind a word, where only a blank and one sign can stand. */
    private static void everyByteAsBlankOrSign() {
        Runs.about("terms 1: blanks (32) may stand anywhere; what else is no word, NUMBER or sign cannot stand");
        for (int b = 0; b <= 255; b++) {
            boolean letter = b >= 'a' && b <= 'z';
            if (b == ' ') {
                trunk("change ;", FINE, 1);
                trunk(" change;", FINE, 1);
                policy("risk 5 ;", FINE, 1);
            } else {
                trunk("change" + (char) b + ";", 1, letter ? 0 : b == ';' ? 7 : 6);
                trunk((char) b + "change;", 1, 0);
                boolean figure = b >= '0' && b <= '9';
                policy("risk 5" + (char) b + ";", figure ? FINE : 1, figure ? 1 : b == ';' ? 7 : 6);
            }
            trunk("change;" + (char) b, b == ' ' ? FINE : 1, b == ' ' ? 1 : 7);
        }
    }

    private static void everyByteInANumber() {
        Runs.about("terms 1: a NUMBER's figures are 0 .. 9; a list goes on behind ','");
        for (int b = 0; b <= 255; b++) {
            char sign = (char) b;
            boolean figure = b >= '0' && b <= '9';
            // where a number has to stand
            trunk("change risk " + sign + ";", figure ? FINE : 1, figure ? 1 : b == ' ' ? 13 : 12);
            // behind one
            int at = figure ? 12 : b == ';' ? 14 : 13;
            boolean fine = b == ' ';
            trunk("change risk 5" + sign + ";", fine ? FINE : figure ? 2 : 1, fine ? 1 : at);
            // between two of a list
            int place = figure ? 13 : b == ' ' || b == ';' ? 15 : 14;
            trunk("change reads 1" + sign + "2;", b == ',' ? FINE : figure ? 2 : 1, b == ',' ? 1 : place);
        }
    }

    private static void blanks() {
        Runs.about("terms 1: blanks may stand anywhere but within words and NUMBERS");
        String[] parts = {"change", "sets", "10", "1", ",", "2", "33", "reads", "4", ",", "15", "risk", "9", ";",
            "change", ";", "fault", "10", "from", "0", "till", "1", ";"};
        for (int many = 1; many <= 5; many++) {
            String text = " ".repeat(many) + String.join(" ".repeat(many), parts) + " ".repeat(many);
            CarriedBack x = Runs.of(text);
            Runs.due("sets(0, 10)", x.sets(0, 10), 1);
            Runs.due("sets(0, 2)", x.sets(0, 2), 33);
            Runs.due("change(0, 1)", x.change(0, 1), 0x8010);
            Runs.due("change(0, 2)", x.change(0, 2), 9);
            Runs.due("fault(0, 0)", x.fault(0, 0), 10);
            Runs.due("fault(0, 2)", x.fault(0, 2), 1);
        }
        trunk("change sets10 1,2 33reads4,15risk9;change;fault10from0till1;", FINE, 2);
        trunk("chan ge;", 1, 0);
        trunk("change se ts 1 1;", 1, 7);
        trunk("change sets 1 0 1;", 2, 14);
        trunk("change sets 1 5 1;", 1, 16);
        trunk("change reads 1 5;", 1, 15);
        trunk("change;fault 1 0 from 0;", 1, 15);
        policy("ri sk 5;", 1, 0);
        policy("risk 5 5;", 1, 7);
    }

    private static void numbersSideBySide() {
        Runs.about("terms 1: two NUMBERS side by side need a blank");
        trunk("change sets 1 2;", FINE, 1);
        trunk("change sets 12;", 1, 14);
        trunk("change sets 102;", 2, 12);
        policy("freeze 1 2;", FINE, 1);
        policy("freeze 12;", 1, 9);
        policy("freeze 1002;", 2, 7);
    }

    // ---- which breach, at which byte

    private static void firstByteThatHasOne() {
        Runs.about("terms 1: BREACHES, at the first byte that has one");
        trunk("change sets 16 100;", 2, 12);
        trunk("change sets 1 100,1 1;", 2, 14);
        trunk("change sets 1 1,1 100;", 4, 16);
        trunk("change sets 1 1,16 1,1 1;", 2, 16);
        trunk("change risk 10;else;", 2, 12);
        trunk("else;change risk 10;", 1, 0);
        trunk("change reads 1,1;" + "change;".repeat(25), 4, 15);
        trunk("change;".repeat(25) + "change reads 1,1;", 3, 168);
        trunk("change;fault 0 from 9 till 9;", 2, 13);
        trunk("change;fault 1 from 9 till 0;", 2, 20);
        trunk("change;fault 1 from 0 till 0;", 2, 27);
        trunk("change;fault 1 form 9;", 1, 15);
        policy("freeze 1000 0;", 2, 7);
        policy("freeze 9 8;risk 100;", 2, 9);
        policy("risk 1;risk 100;", 3, 7);
        policy("risk 100;risk 1;", 2, 5);
        policy("only 1,1,4;", 4, 7);
        policy("only 4,1,1;", 2, 5);
    }

    private static void leastOfThese() {
        Runs.about("terms 1: of these (at one byte) the least");
        // 1 and 2: a number of three figures where none can stand
        trunk("100;", 1, 0);
        trunk("change 100;", 1, 7);
        trunk("change risk 1 100;", 1, 14);
        trunk("change;fault 1 from 0 100;", 1, 22);
        policy("1000;", 1, 0);
        policy("risk 5 1000;", 1, 7);
        // 2 and 4: a slot, a line again, told by too many figures
        trunk("change sets 1 1,001 1;", 2, 16);
        trunk("change reads 1,001;", 2, 15);
        trunk("change reads 1,01;", 4, 15);
        policy("only 1,0001;", 2, 7);
        policy("only 1,001;", 4, 7);
        // 1 and 3: a word that cannot stand where one change more could not, either
        trunk("change;".repeat(24) + "changes;", 1, 168);
        trunk("change;" + "fault 1 from 0;".repeat(10) + "faults;", 1, 157);
        policy("risk 1;risks 1;", 1, 7);
    }

    private static void endOfTheText() {
        Runs.about("terms 1: (the end at the text's length)");
        String whole = "change sets 1 2,3 4 reads 5,6 risk 7;";
        for (int end : new int[] {6, 7, 11, 12, 13, 14, 16, 17, 18, 19, 20, 25, 26, 28, 30, 34, 35, 36}) {
            trunk(whole.substring(0, end), 1, end);
        }
        trunk(whole, FINE, 1);
        trunk("change   ", 1, 9);
        String fault = "change;change;fault 1 from 0 till 1;";
        for (int end : new int[] {19, 20, 21, 22, 26, 28, 33, 35}) {
            trunk(fault.substring(0, end), 1, end);
        }
        trunk(fault, FINE, 2);
        for (String text : new String[] {"freeze", "freeze 1", "freeze 1 2", "risk", "risk 1", "weigh", "weigh 1",
            "only", "only 1", "only 1,", "only 1,2 ", "risk 1;freeze"}) {
            policy(text, 1, text.length());
        }
        Runs.about("terms 1: a word that cannot stand: at its first letter, at the end, too");
        for (int end = 1; end <= 5; end++) {
            trunk(whole.substring(0, end), 1, 0);
        }
        for (int end = 8; end <= 10; end++) {
            trunk(whole.substring(0, end), 1, 7);
        }
    }

    private static void slotsOnce() {
        Runs.about("terms 1: (unlike ones). BREACH 4: a SLOT again in its list (at its first)");
        trunk("change sets " + ALL_SLOTS + ";", FINE, 1);
        trunk("change reads " + ALL_READ + ";", FINE, 1);
        for (int s = 0; s <= 15; s++) {
            String one = "change sets " + s + " 7,";
            trunk(one + s + " 7;", 4, one.length());
            trunk(one + (s + 1) % 16 + " 7;", FINE, 1);
            String all = "change sets " + ALL_SLOTS + ",";
            trunk(all + s + " 1;", 4, all.length());
            String reads = "change reads " + ALL_READ + ",";
            trunk(reads + s + ";", 4, reads.length());
            trunk("change sets " + s + " 7 reads " + s + ";change sets " + s + " 7 reads " + s + ";", FINE, 2);
        }
        trunk("change sets " + ALL_SLOTS + ",16 1;", 2, ("change sets " + ALL_SLOTS + ",").length());
        trunk("change reads 1,2,1,2;", 4, 17);
        trunk("change reads 1,1", 4, 15);
    }

    private static void emptyText() {
        Runs.about("terms 1: An empty text (or one of blanks alone) has no BREACH");
        trunk("", FINE, 0);
        trunk(" ", FINE, 0);
        trunk(" ".repeat(17), FINE, 0);
        policy("", FINE, 0);
        policy(" ", FINE, 0);
        policy(" ".repeat(120), FINE, 0);
    }

    // ---- what a text changes

    /** Lines, releases, both images, a policy: all that a breach has to leave. */
    private static CarriedBack told() {
        CarriedBack x = Runs.of(TrunkTest.TRUNK);
        Runs.policy(x, "freeze 10 20;risk 5;weigh 5;only 0,2;");
        x.cut(1);
        x.cut(4);
        x.cut(0);
        x.every(1, 9);
        x.release(0, 5);
        x.keep(1);
        x.pick(0, 1);
        x.release(0, 7);
        x.keep(0);
        x.pick(2, 0);
        x.pick(2, 3);
        x.release(2, 8);
        return x;
    }

    private static void breachLeaves(boolean ofTrunk, String text, int number, int at) {
        CarriedBack x = told();
        Runs.feed(x, text);
        Runs.due("of '" + text + "'", ofTrunk ? x.trunk() : x.policy(), -10 - number);
        Runs.due("breach() of '" + text + "'", x.breach(), at);
        Runs.due("count(4) of '" + text + "'", x.count(4), 0);
        List<String> got = Seen.of(x);
        List<String> want = Seen.of(told());
        // the first row is breach() itself
        got.remove(0);
        want.remove(0);
        Runs.same("'" + text + "' leaves all else", got, want);
    }

    private static void breachesOfATrunkLeaveAll() {
        Runs.about("promise 3: THE TEXT is empty then, with a BREACH, too; all else is as it was");
        breachLeaves(true, "x", 1, 0);
        breachLeaves(true, "change;change sets 0 9;chang;", 1, 23);
        breachLeaves(true, "change sets 0 9 risk 8", 1, 22);
        breachLeaves(true, "change sets 0 9;change risk 10;", 2, 28);
        breachLeaves(true, "change sets 0 9;".repeat(25), 3, 384);
        breachLeaves(true, "change;" + "fault 9 from 0;".repeat(11), 3, 157);
        breachLeaves(true, "change sets 0 9,1 9,2 9,3 9,0 1;", 4, 28);
        breachLeaves(true, "freeze 1 2;", 1, 0);
    }

    private static void breachesOfAPolicyLeaveAll() {
        Runs.about("promise 4: THE TEXT is empty then, with a BREACH, too; all else is as it was");
        breachLeaves(false, "x", 1, 0);
        breachLeaves(false, "freeze 0 999;risk 0;weigh 99;only 3", 1, 35);
        breachLeaves(false, "freeze 0 999;risk 0;weigh 99;only 4;", 2, 34);
        breachLeaves(false, "only 3;weigh 99;risk 0;freeze 9 8;", 2, 32);
        breachLeaves(false, "freeze 0 999;".repeat(9), 3, 104);
        breachLeaves(false, "only 3;weigh 99;risk 0;risk 0;", 3, 23);
        breachLeaves(false, "risk 99;only 0,1,2,3,0;", 4, 21);
        breachLeaves(false, "change;", 1, 0);
    }

    private static void aTrunkTakesLinesAndImages() {
        Runs.about("promise 3: LINES, RELEASES are none then, IMAGES are gone; THE POLICY stays");
        String[] texts = {"", "change;", TrunkTest.TRUNK};
        int[] changes = {0, 1, 6};
        for (int k = 0; k < texts.length; k++) {
            CarriedBack x = told();
            Runs.due("trunk()", Runs.trunk(x, texts[k]), changes[k]);
            Runs.due("count(0)", x.count(0), changes[k]);
            Runs.due("count(2)", x.count(2), 0);
            Runs.due("count(3)", x.count(3), 0);
            Runs.due("line(0, 0)", x.line(0, 0), CarriedBack.UNKNOWN);
            Runs.due("released(0, 0)", x.released(0, 0), CarriedBack.UNKNOWN);
            Runs.due("goBack(0)", x.goBack(0), CarriedBack.NOT);
            Runs.due("goBack(1)", x.goBack(1), CarriedBack.NOT);
            Runs.due("cut(0)", x.cut(0), 0);
            Runs.due("cut(0)", x.cut(0), 1);
            Runs.due("line(1, 4): no trains at first", x.line(1, 4), 0);
            Runs.due("strayed(0)", x.strayed(0), 0);
            Runs.due("release(0, 0): none was ahead", x.release(0, 0), 0);
            if (k == 2) {
                x.pick(0, 0);
                Runs.due("lets(0, 1, 9)", x.lets(0, 1, 9), 1);
                Runs.due("lets(0, 1, 10): in a freeze", x.lets(0, 1, 10), 0);
                x.pick(1, 0);
                Runs.due("lets(1, 1, 9): not an 'only'", x.lets(1, 1, 9), 0);
            }
        }
    }

    // ---- the policy

    private static void oneHundredAndTwentyBytes() {
        Runs.about("promise 4: NOT: more than 120 bytes (THE TEXT stays)");
        String eleven = "freeze 1 1;".repeat(8) + "risk 9;weigh 9;only 0;";
        policy(eleven + " ".repeat(10), FINE, 11);
        policy(" ".repeat(113) + "risk 9;", FINE, 1);
        policy(" ".repeat(114) + "risk 9", 1, 120);
        policy(" ".repeat(119) + ";", 1, 119);
        for (int bytes : new int[] {121, 122, 200, 500}) {
            CarriedBack x = Runs.of("change;change;");
            x.cut(0);
            Runs.policy(x, "freeze 3 3;");
            Runs.trunk(x, "change x");
            Runs.feed(x, "risk 9;" + " ".repeat(bytes - 7));
            Runs.due("policy() of " + bytes + " bytes", x.policy(), CarriedBack.NOT);
            Runs.due("count(4)", x.count(4), bytes);
            Runs.due("breach() of what was not NOT", x.breach(), 7);
            Runs.due("lets(0, 0, 3)", x.lets(0, 0, 3), 0);
            Runs.due("lets(0, 0, 4)", x.lets(0, 0, 4), 1);
            Runs.due("trunk() of the text that stayed", x.trunk(), -11);
            Runs.due("breach()", x.breach(), 0);
        }
        Runs.about("promise 4: NOT ahead of a BREACH");
        CarriedBack y = new CarriedBack();
        Runs.feed(y, "x".repeat(121));
        Runs.due("policy() of 121 bytes", y.policy(), CarriedBack.NOT);
        Runs.due("breach()", y.breach(), CarriedBack.NONE);
    }

    private static void clausesOfAPolicy() {
        Runs.about("promise 4: how many clauses");
        policy("freeze 1 2;", FINE, 1);
        policy("risk 1;freeze 1 2;", FINE, 2);
        policy("only 0;risk 1;freeze 1 2;", FINE, 3);
        policy("weigh 0;only 0,1,2,3;risk 1;freeze 1 2;", FINE, 4);
        policy("freeze 1 2;weigh 0;freeze 1 2;only 0,1,2,3;freeze 1 2;risk 1;freeze 1 2;", FINE, 7);
        Runs.about("promise 4: THE TEXT becomes THE POLICY, an empty one, too");
        CarriedBack x = Runs.of("change risk 5;");
        x.cut(0);
        x.cut(0);
        String[] policies = {"freeze 5 5;", "risk 4;", "weigh 1;", "only 0;"};
        for (String text : policies) {
            Runs.due(text, Runs.policy(x, text), 1);
            Runs.due("lets(1, 0, 5) under " + text, x.lets(1, 0, 5), 0);
            Runs.due("an empty one", x.policy(), 0);
            Runs.due("lets(1, 0, 5)", x.lets(1, 0, 5), 1);
        }
        for (String text : policies) {
            Runs.due("another one", Runs.policy(x, text), 1);
            Runs.due("lets(1, 0, 6) under " + text, x.lets(1, 0, 6), text.startsWith("freeze") ? 1 : 0);
        }
        Runs.due("blanks", Runs.policy(x, "   "), 0);
        Runs.due("lets(1, 0, 5)", x.lets(1, 0, 5), 1);
    }

    private static void eightFreezes() {
        Runs.about("terms 4: 8 of them at most. BREACH 3: a ninth freeze (at its first letter)");
        for (int n = 1; n <= 8; n++) {
            policy("freeze 1 2;".repeat(n), FINE, n);
        }
        policy("freeze 1 2;".repeat(9), 3, 88);
        policy("freeze 1 2;".repeat(8) + "  freeze 1 2;", 3, 90);
        policy("freeze 1 2;".repeat(8) + "freeze", 3, 88);
        policy("freeze 1 2;".repeat(8) + "risk 1;freeze 1 2;", 3, 95);
        policy("freeze 1 2;".repeat(8) + "freezes 1 2;", 1, 88);
        CarriedBack x = Runs.of("change;");
        x.cut(0);
        StringBuilder text = new StringBuilder();
        for (int k = 0; k < 8; k++) {
            text.append("freeze ").append(10 * k).append(' ').append(10 * k + 1).append(';');
        }
        Runs.due("eight freezes", Runs.policy(x, text.toString()), 8);
        for (int day = 0; day <= 80; day++) {
            Runs.due("lets(0, 0, " + day + ")", x.lets(0, 0, day), day < 80 && day % 10 < 2 ? 0 : 1);
        }
    }

    private static void onceAlone() {
        Runs.about("terms 4: All but 'freeze' once. BREACH 3: what was told already (at its first letter)");
        String[] clauses = {"risk 0;", "weigh 0;", "only 0;"};
        for (String one : clauses) {
            policy(one, FINE, 1);
            policy(one + one, 3, one.length());
            policy(one + "  " + one, 3, one.length() + 2);
            policy(one + "freeze 1 2;" + one, 3, one.length() + 11);
            policy(one + one.substring(0, one.indexOf(' ')), 3, one.length());
            for (String other : clauses) {
                if (!other.equals(one)) {
                    policy(one + other, FINE, 2);
                    policy(one + other + one, 3, one.length() + other.length());
                }
            }
        }
    }

    private static void linesOnce() {
        Runs.about("terms 4: LINES 0 .. 3. BREACH 4: a LINE again (at it)");
        policy("only 0,1,2,3;", FINE, 1);
        policy("only 3,2,1,0;", FINE, 1);
        for (int l = 0; l <= 3; l++) {
            policy("only " + l + ";", FINE, 1);
            policy("only " + l + "," + l + ";", 4, 7);
            policy("only " + l + "," + (l + 1) % 4 + ",  " + l + ";", 4, 11);
            policy("only 0,1,2,3," + l + ";", 4, 13);
        }
        policy("only 0,1,2,3,4;", 2, 13);
    }

    private static void latestBreach() {
        Runs.about("promise 5: The byte of the BREACH of the latest trunk() or policy() that was not NOT; NONE");
        CarriedBack x = new CarriedBack();
        Runs.due("none yet", x.breach(), CarriedBack.NONE);
        Runs.feed(x, " ".repeat(121));
        Runs.due("policy()", x.policy(), CarriedBack.NOT);
        Runs.due("only one that was NOT", x.breach(), CarriedBack.NONE);
        Runs.due("trunk()", x.trunk(), 0);
        Runs.due("of a trunk at byte 0", Runs.trunk(x, "x"), -11);
        Runs.due("breach()", x.breach(), 0);
        Runs.due("of a policy", Runs.policy(x, "risk 5 x"), -11);
        Runs.due("breach()", x.breach(), 7);
        Runs.due("of a trunk without one", x.trunk(), 0);
        Runs.due("breach()", x.breach(), CarriedBack.NONE);
        Runs.due("of a trunk at its end", Runs.trunk(x, " ".repeat(494) + "change"), -11);
        Runs.due("breach()", x.breach(), 500);
        Runs.due("of a policy without one", x.policy(), 0);
        Runs.due("breach()", x.breach(), CarriedBack.NONE);
        Runs.trunk(x, "  x");
        x.feed(9, 0);
        x.cut(-1);
        x.cut(0);
        x.keep(0);
        x.goBack(0);
        Runs.due("other calls leave it", x.breach(), 2);
    }

    // ---- what is told of the trunk

    private static void whatIsToldOfChanges() {
        Runs.about("promise 6: SETS of SLOTS, RISK, SETS of FAULTS, empty and full ones");
        CarriedBack x = Runs.of("change;change sets " + ALL_SLOTS + " reads " + ALL_READ + ";" + "change;"
            + "fault 1 from 0 till 2;".repeat(10));
        int[][] want = {{0, 0, 0, 1023, 0}, {0xffff, 0xffff, 0, 0, 0}, {0, 0, 0, 0, 1023}};
        for (int c = 0; c < 3; c++) {
            for (int what = 0; what <= 4; what++) {
                Runs.due("change(" + c + ", " + what + ")", x.change(c, what), want[c][what]);
            }
            Runs.due("change(" + c + ", 5)", x.change(c, 5), CarriedBack.OUTSIDE);
            Runs.due("change(" + c + ", -1)", x.change(c, -1), CarriedBack.OUTSIDE);
        }
        Runs.about("promise 7: 0: it does not");
        CarriedBack y = Runs.of("change sets 0 1,15 99 reads 7;");
        int[] set = {1, 0, 0, 0, 0, 0, 0, 0, 0, 0, 0, 0, 0, 0, 0, 99};
        for (int s = 0; s <= 15; s++) {
            Runs.due("sets(0, " + s + ")", y.sets(0, s), set[s]);
        }
        Runs.about("promise 8: (or of none more: c = how many). The last CHANGE ahead that sets it, 0 without one");
        CarriedBack z = Runs.of("change sets 3 5;change reads 3;change sets 3 6;change sets 4 1;");
        int[] three = {0, 5, 5, 6, 6};
        int[] four = {0, 0, 0, 0, 1};
        for (int c = 0; c <= 4; c++) {
            Runs.due("ahead(" + c + ", 3)", z.ahead(c, 3), three[c]);
            Runs.due("ahead(" + c + ", 4)", z.ahead(c, 4), four[c]);
            Runs.due("ahead(" + c + ", 5)", z.ahead(c, 5), 0);
        }
        Runs.due("ahead(5, 3)", z.ahead(5, 3), CarriedBack.UNKNOWN);
    }

    private static void lastOnes() {
        Runs.about("promise 9: the CHANGE with which it comes, goes (NONE)");
        CarriedBack x = Runs.of("change;".repeat(24) + "fault 1 from 0;fault 99 from 22 till 23;fault 9 from 23;");
        int[][] want = {{1, 0, -1}, {99, 22, 23}, {9, 23, -1}};
        for (int f = 0; f < 3; f++) {
            for (int what = 0; what <= 2; what++) {
                Runs.due("fault(" + f + ", " + what + ")", x.fault(f, what), want[f][what]);
            }
        }
        Runs.about("promise 10: How many: none, and as many as there may be");
        CarriedBack y = Runs.of("change;".repeat(24) + "fault 1 from 0;".repeat(10));
        for (int k = 0; k < 5; k++) {
            y.cut(0);
        }
        for (int k = 0; k < 21; k++) {
            y.release(0, 0);
        }
        Runs.feed(y, " ".repeat(500));
        int[] most = {24, 10, 4, 20, 500};
        for (int what = 0; what <= 4; what++) {
            Runs.due("count(" + what + ")", y.count(what), most[what]);
        }
        Runs.due("count(5)", y.count(5), CarriedBack.OUTSIDE);
        Runs.due("count(-1)", y.count(-1), CarriedBack.OUTSIDE);
    }
}
