/** Promises 1 to 10: a new object, texts, and what a trunk tells. */
public final class TrunkTest {
    static final String TRUNK = "change sets 0 1;change sets 1 2 reads 0 risk 3;fault 5 from 0 till 1;"
        + "change sets 0 3 risk 1;change sets 2 4;fault 7 from 2;change sets 0 5,2 6 risk 2;"
        + "fault 9 from 3 till 4;change sets 1 7 reads 2;";

    private TrunkTest() {
    }

    public static void main(String[] args) {
        newObject();
        feeding();
        goodTrunks();
        wordsThatCannotStand();
        badNumbers();
        tooMany();
        slotsAgain();
        whatATrunkChanges();
        staleBytes();
        policies();
        policyBreaches();
        breachByte();
        changes();
        settings();
        aheadOnTrunk();
        faults();
        counts();
        Runs.close();
    }

    private static void newObject() {
        Runs.about("promise 1");
        CarriedBack x = new CarriedBack();
        for (int what = 0; what <= 4; what++) {
            Runs.due("count(" + what + ")", x.count(what), 0);
        }
        Runs.due("change(0, 0)", x.change(0, 0), CarriedBack.UNKNOWN);
        Runs.due("fault(0, 0)", x.fault(0, 0), CarriedBack.UNKNOWN);
        Runs.due("line(0, 0)", x.line(0, 0), CarriedBack.UNKNOWN);
        Runs.due("released(0, 0)", x.released(0, 0), CarriedBack.UNKNOWN);
        Runs.due("breach()", x.breach(), CarriedBack.NONE);
        Runs.due("bestCut(0, 0, 0)", x.bestCut(0, 0, 0), 0);
        Runs.due("goBack(0)", x.goBack(0), CarriedBack.NOT);
        for (int s = 0; s < 16; s++) {
            Runs.due("ahead(0, " + s + ")", x.ahead(0, s), 0);
        }
        Runs.due("cut(1)", x.cut(1), CarriedBack.OUTSIDE);
        Runs.due("cut(0)", x.cut(0), 0);
        Runs.due("value(0, 15)", x.value(0, 15), 0);
        Runs.due("cost(0, 0)", x.cost(0, 0), 0);
        Runs.due("cost(0, 1)", x.cost(0, 1), CarriedBack.UNKNOWN);
        Runs.due("orders(0, 0)", x.orders(0, 0), 1);
        Runs.due("ready(0, true)", x.ready(0, true), 0);
    }

    private static void feeding() {
        Runs.about("promise 2");
        CarriedBack x = new CarriedBack();
        Runs.due("feed(0, 0)", x.feed(0, 0), CarriedBack.OUTSIDE);
        Runs.due("feed(9, 0)", x.feed(9, 0), CarriedBack.OUTSIDE);
        Runs.due("feed(-1, 0)", x.feed(-1, 0), CarriedBack.OUTSIDE);
        Runs.due("feed(min, 0)", x.feed(Integer.MIN_VALUE, 0), CarriedBack.OUTSIDE);
        Runs.due("feed(max, 0)", x.feed(Integer.MAX_VALUE, 0), CarriedBack.OUTSIDE);
        Runs.due("count(4)", x.count(4), 0);
        // "ch", "ange" behind other bytes, ";"
        Runs.due("feed(2, xxch)", x.feed(2, 0x78786368L), 2);
        Runs.due("feed(4, ..ange)", x.feed(4, 0xfff0aaaa616e6765L), 6);
        Runs.due("feed(1, x;)", x.feed(1, 0x783bL), 7);
        Runs.due("count(4)", x.count(4), 7);
        Runs.due("trunk()", x.trunk(), 1);
        Runs.due("feed(8, -1)", x.feed(8, -1L), 8);
        Runs.due("trunk() of bytes 255", x.trunk(), -11);
        Runs.due("breach()", x.breach(), 0);
        for (int k = 1; k <= 62; k++) {
            Runs.due("feed(8, blanks)", x.feed(8, 0x2020202020202020L), 8 * k);
        }
        Runs.due("feed(5, blanks) at 496", x.feed(5, 0x2020202020L), CarriedBack.FULL);
        Runs.due("feed(8, blanks) at 496", x.feed(8, 0x2020202020202020L), CarriedBack.FULL);
        Runs.due("count(4)", x.count(4), 496);
        Runs.due("feed(4, ..) at 496", x.feed(4, 0x20202020L), 500);
        Runs.due("feed(1, ..) at 500", x.feed(1, 0x20L), CarriedBack.FULL);
        Runs.due("feed(9, ..) at 500", x.feed(9, 0x20L), CarriedBack.OUTSIDE);
        Runs.due("feed(max, ..) at 500", x.feed(Integer.MAX_VALUE, 0x20L), CarriedBack.OUTSIDE);
        Runs.due("trunk() of 500 blanks", x.trunk(), 0);
        Runs.due("count(4)", x.count(4), 0);
        Runs.due("feed(1, ..)", x.feed(1, 0x20L), 1);
    }

    private static void good(String text, int changes, int faults) {
        CarriedBack x = new CarriedBack();
        Runs.due("trunk() of '" + text + "'", Runs.trunk(x, text), changes);
        Runs.due("breach() of '" + text + "'", x.breach(), CarriedBack.NONE);
        Runs.due("faults of '" + text + "'", x.count(1), faults);
        Runs.due("count(4) of '" + text + "'", x.count(4), 0);
    }

    private static void bad(String text, int number, int at) {
        CarriedBack x = new CarriedBack();
        Runs.due("trunk() of '" + text + "'", Runs.trunk(x, text), -10 - number);
        Runs.due("breach() of '" + text + "'", x.breach(), at);
        Runs.due("count(4) of '" + text + "'", x.count(4), 0);
        Runs.due("count(0) of '" + text + "'", x.count(0), 0);
    }

    private static void goodTrunks() {
        Runs.about("promise 3, texts without a breach");
        good("", 0, 0);
        good("    ", 0, 0);
        good("change;", 1, 0);
        good(" change ; ", 1, 0);
        good("change;change;", 2, 0);
        good("change sets 0 1;", 1, 0);
        good("change sets0 1,1 2reads0,2risk3;fault5from0;", 1, 1);
        good("  change  sets  0  1 , 1 99  reads 0 , 15 risk 9 ; fault 99 from 0 ;  ", 1, 1);
        good("change sets 00 01,15 09 reads 05,06 risk 00;fault 01 from 00;", 1, 1);
        good("change reads 0;", 1, 0);
        good("change risk 0;", 1, 0);
        good("change sets 3 1 risk 9;", 1, 0);
        good("change sets 3 1 reads 3;change sets 3 1 reads 3;", 2, 0);
        good("change;change;fault 1 from 0 till 1;fault 1 from 0 till 01;", 2, 2);
        good("change sets 0 1,1 1,2 1,3 1,4 1,5 1,6 1,7 1,8 1,9 1,10 1,11 1,12 1,13 1,14 1,15 1"
            + " reads 0,1,2,3,4,5,6,7,8,9,10,11,12,13,14,15;", 1, 0);
        good("change;".repeat(24), 24, 0);
        good("change;" + "fault 1 from 0;".repeat(10), 1, 10);
        good("change;".repeat(24) + "fault 1 from 23;fault 1 from 22 till 23;", 24, 2);
        good("change" + " ".repeat(493) + ";", 1, 0);
        good(TRUNK, 6, 3);
    }

    private static void wordsThatCannotStand() {
        Runs.about("promise 3, breach 1");
        bad("change", 1, 6);
        bad("change  ", 1, 8);
        bad("  change", 1, 8);
        bad("chang", 1, 0);
        bad(" chang", 1, 1);
        bad("Change;", 1, 0);
        bad("cHange;", 1, 0);
        bad("changE;", 1, 0);
        bad("changes;", 1, 0);
        bad("xhange;", 1, 0);
        bad("chxnge;", 1, 0);
        bad("changx;", 1, 0);
        bad("change;eault 1 from 0;", 1, 7);
        bad("change;fault 1 form 0;", 1, 15);
        bad("changesets 0 1;", 1, 0);
        bad("sets 0 1;", 1, 0);
        bad("freeze 1 2;", 1, 0);
        bad(";", 1, 0);
        bad(",", 1, 0);
        bad("5;", 1, 0);
        bad("555;", 1, 0);
        bad("-", 1, 0);
        bad("change;;", 1, 7);
        bad("change,", 1, 6);
        bad("change\t;", 1, 6);
        bad("change\n;", 1, 6);
        bad("change\u00a0;", 1, 6);
        bad("change:", 1, 6);
        bad("change/;", 1, 6);
        bad("change`;", 1, 6);
        bad("change{;", 1, 6);
        bad("change\u0000;", 1, 6);
        bad("change 5;", 1, 7);
        bad("change 555;", 1, 7);
        bad("change change;", 1, 7);
        bad("change from 0;", 1, 7);
        bad("change sets;", 1, 11);
        bad("change sets x", 1, 12);
        bad("change sets", 1, 11);
        bad("change sets 0", 1, 13);
        bad("change sets 0;", 1, 13);
        bad("change sets 01;", 1, 14);
        bad("change sets 0,1;", 1, 13);
        bad("change sets 0 1", 1, 15);
        bad("change sets 0 1,", 1, 16);
        bad("change sets 0 1,;", 1, 16);
        bad("change sets 0 1 2;", 1, 16);
        bad("change sets 0 1 sets 1 1;", 1, 16);
        bad("change reads 0 sets 0 1;", 1, 15);
        bad("change reads 0 reads 1;", 1, 15);
        bad("change reads 0 1;", 1, 15);
        bad("change reads;", 1, 12);
        bad("change reads 0,", 1, 15);
        bad("change risk;", 1, 11);
        bad("change risk 1 2;", 1, 14);
        bad("change risk 1,2;", 1, 13);
        bad("change risk 1 reads 0;", 1, 14);
        bad("change risk 1 risk 1;", 1, 14);
        bad("change risk 1", 1, 13);
        bad("change sets 0 1 fault 1 from 0;", 1, 16);
        bad("change;fault;", 1, 12);
        bad("change;faults 1 from 0;", 1, 7);
        bad("change;fault 1;", 1, 14);
        bad("change;fault from 0;", 1, 13);
        bad("change;fault 1 till 0;", 1, 15);
        bad("change;fault 1 from;", 1, 19);
        bad("change;fault 1 from 0", 1, 21);
        bad("change;fault 1 from 0,0;", 1, 21);
        bad("change;fault 1 from 0 0;", 1, 22);
        bad("change;fault 1 from 0 until 0;", 1, 22);
        bad("change;fault 1 from 0 till;", 1, 26);
        bad("change;change;fault 1 from 0 till 1 risk 1;", 1, 36);
        bad("change;change;fault 1 from 0 till 1", 1, 35);
    }

    private static void badNumbers() {
        Runs.about("promise 3, breach 2");
        bad("change sets 16 1;", 2, 12);
        bad("change sets 99 1;", 2, 12);
        bad("change sets 000 1;", 2, 12);
        bad("change sets 0 0;", 2, 14);
        bad("change sets 0 00;", 2, 14);
        bad("change sets 0 100;", 2, 14);
        bad("change sets 0 001;", 2, 14);
        bad("change sets 0 1,16 1;", 2, 16);
        bad("change sets 0 99999999999999999999;", 2, 14);
        bad("change sets 0 4294967297;", 2, 14);
        bad("change reads 16;", 2, 13);
        bad("change reads 0,0016;", 2, 15);
        bad("change risk 10;", 2, 12);
        bad("change risk 009;", 2, 12);
        bad("change risk 100", 2, 12);
        bad("change;fault 0 from 0;", 2, 13);
        bad("change;fault 100 from 0;", 2, 13);
        bad("change;fault 1 from 1;", 2, 20);
        bad("change;fault 1 from 000;", 2, 20);
        bad("fault 1 from 0;", 2, 13);
        bad("fault 1 from 0;change;", 2, 13);
        bad("change;fault 1 from 0 till 0;", 2, 27);
        bad("change;fault 1 from 0 till 1;", 2, 27);
        bad("change;fault 1 from 0 till 1;change;", 2, 27);
        bad("change;change;fault 1 from 1 till 1;", 2, 34);
        bad("change;change;fault 1 from 1 till 0;", 2, 34);
        bad("change;change;fault 1 from 0 till 2;", 2, 34);
        bad("change;change;fault 1 from 0 till 001;", 2, 34);
        bad("change sets 16 0,16 0;;", 2, 12);
    }

    private static void tooMany() {
        Runs.about("promise 3, breach 3");
        bad("change;".repeat(25), 3, 168);
        bad("change;".repeat(24) + "  change", 3, 170);
        bad("change;".repeat(24) + "change sets 99 9;", 3, 168);
        bad("change;".repeat(24) + "chang;", 1, 168);
        bad("change;" + "fault 1 from 0;".repeat(11), 3, 157);
        bad("change;" + "fault 1 from 0;".repeat(10) + "fault 0;", 3, 157);
        bad("change;" + "fault 1 from 0;".repeat(10) + "faul", 1, 157);
    }

    private static void slotsAgain() {
        Runs.about("promise 3, breach 4");
        bad("change sets 1 2,1 3;", 4, 16);
        bad("change sets 1 2,01 0;", 4, 16);
        bad("change sets 1 2,2 3, 1;", 4, 21);
        bad("change reads 1,1;", 4, 15);
        bad("change reads 1,2,01;", 4, 17);
        bad("change reads 1,1", 4, 15);
        bad("change reads 0,1,2,3,4,5,6,7,8,9,10,11,12,13,14,15,15;", 4, 51);
        bad("change reads 0,1,2,3,4,5,6,7,8,9,10,11,12,13,14,15,16;", 2, 51);
        bad("change sets 15 1 reads 15,15;", 4, 26);
        bad("change sets 0 1,1 1,2 1,3 1,4 1,5 1,6 1,7 1,8 1,9 1,10 1,11 1,12 1,13 1,14 1,15 1,0 1;", 4, 82);
    }

    private static void whatATrunkChanges() {
        Runs.about("promise 3, what stays and what goes");
        CarriedBack x = Runs.of(TRUNK);
        Runs.policy(x, "freeze 5 5;");
        x.cut(3);
        x.every(0, 7);
        x.release(0, 5);
        x.keep(0);
        Runs.due("a breach", Runs.trunk(x, "change;chang;"), -11);
        Runs.due("count(0)", x.count(0), 6);
        Runs.due("count(1)", x.count(1), 3);
        Runs.due("count(2)", x.count(2), 1);
        Runs.due("count(3)", x.count(3), 1);
        Runs.due("change(1, 0)", x.change(1, 0), 2);
        Runs.due("ahead(6, 1)", x.ahead(6, 1), 7);
        Runs.due("line(0, 1)", x.line(0, 1), 7);
        Runs.due("goBack(0)", x.goBack(0), 1);
        Runs.due("a new trunk", Runs.trunk(x, "change sets 4 4;change;"), 2);
        Runs.due("count(0)", x.count(0), 2);
        Runs.due("count(1)", x.count(1), 0);
        Runs.due("count(2)", x.count(2), 0);
        Runs.due("count(3)", x.count(3), 0);
        Runs.due("goBack(0)", x.goBack(0), CarriedBack.NOT);
        Runs.due("goBack(1)", x.goBack(1), CarriedBack.NOT);
        Runs.due("change(0, 0)", x.change(0, 0), 16);
        Runs.due("sets(0, 0)", x.sets(0, 0), 0);
        Runs.due("ahead(2, 0)", x.ahead(2, 0), 0);
        Runs.due("ahead(1, 4)", x.ahead(1, 4), 4);
        Runs.due("change(1, 0)", x.change(1, 0), 0);
        Runs.due("change(1, 1)", x.change(1, 1), 0);
        Runs.due("change(1, 2)", x.change(1, 2), 0);
        Runs.due("cut(0)", x.cut(0), 0);
        Runs.due("every(0, 0)", x.every(0, 0), 0);
        Runs.due("release(0, 0)", x.release(0, 0), 0);
        Runs.due("lets(0, 0, 5): the policy stays", x.lets(0, 0, 5), 0);
        Runs.due("lets(0, 0, 6)", x.lets(0, 0, 6), 1);
        staleOnes();
        Runs.due("an empty trunk", x.trunk(), 0);
        Runs.due("count(0)", x.count(0), 0);
        Runs.due("count(2)", x.count(2), 0);
    }

    /** What an earlier trunk's lines and releases held is nowhere counted. */
    private static void staleOnes() {
        CarriedBack x = Runs.of(ReleasesTest.FREE);
        for (int l = 0; l < 4; l++) {
            x.cut(1);
            x.every(l, 7);
            x.release(l, 3);
        }
        x.keep(0);
        Runs.due("the same trunk", Runs.trunk(x, ReleasesTest.FREE), 4);
        Runs.due("soonest(0, 1)", x.soonest(0, 1), CarriedBack.NOBODY);
        Runs.due("danger(0, 0, 9)", x.danger(0, 0, 9), 0);
        x.cut(0);
        Runs.due("soonest(0, 1)", x.soonest(0, 1), CarriedBack.NOBODY);
        Runs.due("spans(0, 0, -1, 0)", x.spans(0, 0, -1, 0), 0);
        Runs.due("freed(0, 0)", x.freed(0, 0), CarriedBack.NONE);
        Runs.due("release(0, 0)", x.release(0, 0), 0);
        Runs.due("line(0, 4)", x.line(0, 4), 0);
        Runs.due("danger(0, 0, 9)", x.danger(0, 0, 9), 0);
    }

    /** What an earlier text had behind the end of a later one is not read. */
    private static void staleBytes() {
        Runs.about("promises 3, 4, a shorter text behind a longer one");
        CarriedBack x = new CarriedBack();
        Runs.due("trunk()", Runs.trunk(x, "change;change risk 9;"), 2);
        Runs.due("trunk() of 'chang'", Runs.trunk(x, "chang"), -11);
        Runs.due("breach()", x.breach(), 0);
        Runs.due("trunk() of 'change'", Runs.trunk(x, "change"), -11);
        Runs.due("breach()", x.breach(), 6);
        Runs.due("policy()", Runs.policy(x, "risk 55;"), 1);
        Runs.due("policy() of 'risk 5'", Runs.policy(x, "risk 5"), -11);
        Runs.due("breach()", x.breach(), 6);
        Runs.due("trunk()", Runs.trunk(x, "change risk 55;"), -12);
        Runs.due("trunk() of 'change risk 5'", Runs.trunk(x, "change risk 5"), -11);
        Runs.due("breach()", x.breach(), 13);
        Runs.due("trunk()", Runs.trunk(x, " ".repeat(20)), 0);
        Runs.due("trunk() of 'change;   '", Runs.trunk(x, "change;   "), 1);
    }

    private static void policies() {
        Runs.about("promise 4");
        CarriedBack x = Runs.of(TRUNK);
        x.cut(1);
        Runs.due("no policy", x.policy(), 0);
        Runs.due("blanks alone", Runs.policy(x, "   "), 0);
        Runs.due("all clauses", Runs.policy(x, "freeze 1 2;freeze 3 4;risk 3;weigh 5;only 0,3;"), 5);
        Runs.due("count(4)", x.count(4), 0);
        Runs.due("count(2): lines stay", x.count(2), 1);
        Runs.due("no blanks", Runs.policy(x, "freeze1 2;risk3;only0,1,2,3;"), 3);
        Runs.due("blanks", Runs.policy(x, "  freeze  0  999 ; weigh 000 ;only 3 , 002 ; "), 3);
        Runs.due("three figures", Runs.policy(x, "freeze 001 005;risk 099;"), 2);
        Runs.due("one day", Runs.policy(x, "freeze 5 5;"), 1);
        Runs.due("eight freezes", Runs.policy(x, "freeze 1 2;".repeat(8)), 8);
        Runs.due("120 bytes", Runs.policy(x, "freeze 10 20;" + " ".repeat(107)), 1);
        Runs.due("lets(0, 1, 15)", x.lets(0, 1, 15), 0);
        Runs.due("a breach", Runs.policy(x, "risk 5"), -11);
        Runs.due("count(4)", x.count(4), 0);
        Runs.due("lets(0, 1, 15): it stays", x.lets(0, 1, 15), 0);
        Runs.feed(x, "risk 5;" + " ".repeat(114));
        Runs.due("121 bytes", x.policy(), CarriedBack.NOT);
        Runs.due("count(4)", x.count(4), 121);
        Runs.due("lets(0, 1, 15): it stays", x.lets(0, 1, 15), 0);
        Runs.due("121 bytes again", x.policy(), CarriedBack.NOT);
        Runs.due("trunk()", x.trunk(), -11);
        Runs.due("empty", x.policy(), 0);
        Runs.due("lets(0, 1, 15): all is let", x.lets(0, 1, 15), 1);
    }

    private static void badPolicy(String text, int number, int at) {
        CarriedBack x = new CarriedBack();
        Runs.due("policy() of '" + text + "'", Runs.policy(x, text), -10 - number);
        Runs.due("breach() of '" + text + "'", x.breach(), at);
        Runs.due("count(4) of '" + text + "'", x.count(4), 0);
    }

    private static void policyBreaches() {
        Runs.about("promise 4, breaches");
        badPolicy("change;", 1, 0);
        badPolicy("froze 1 2;", 1, 0);
        badPolicy("freeze;", 1, 6);
        badPolicy("freeze 1;", 1, 8);
        badPolicy("freeze 1,2;", 1, 8);
        badPolicy("freeze 1 2", 1, 10);
        badPolicy("freeze 1 2 3;", 1, 11);
        badPolicy("risk;", 1, 4);
        badPolicy("risk 5", 1, 6);
        badPolicy("risk 5;;", 1, 7);
        badPolicy("risk 5 ,", 1, 7);
        badPolicy("weigh 5 5;", 1, 8);
        badPolicy("weigh", 1, 5);
        badPolicy("only;", 1, 4);
        badPolicy("only 1 2;", 1, 7);
        badPolicy("only 1,", 1, 7);
        badPolicy("only 1,;", 1, 7);
        badPolicy("freeze 5 4;", 2, 9);
        badPolicy("freeze 0 1000;", 2, 9);
        badPolicy("freeze 1000 1000;", 2, 7);
        badPolicy("freeze 0001 5;", 2, 7);
        badPolicy("risk 100;", 2, 5);
        badPolicy("risk 0099;", 2, 5);
        badPolicy("weigh 100;", 2, 6);
        badPolicy("only 4;", 2, 5);
        badPolicy("only 0,16;", 2, 7);
        badPolicy("only 0,0000;", 2, 7);
        badPolicy("weigh 1;weigh 1;", 3, 8);
        badPolicy("weigh 0;weigh", 3, 8);
        badPolicy("risk 0; risk 100;", 3, 8);
        badPolicy("only 0;only 2;", 3, 7);
        badPolicy("freeze 1 2;".repeat(9), 3, 88);
        badPolicy("only 1,1;", 4, 7);
        badPolicy("only 0,1,2,3,0;", 4, 13);
        badPolicy("only 3, 003;", 4, 8);
        badPolicy("only 3,2,1,0,4;", 2, 13);
    }

    private static void breachByte() {
        Runs.about("promise 5");
        CarriedBack x = new CarriedBack();
        Runs.due("breach()", x.breach(), CarriedBack.NONE);
        Runs.due("trunk()", Runs.trunk(x, "change;x"), -11);
        Runs.due("breach()", x.breach(), 7);
        Runs.due("breach() again", x.breach(), 7);
        Runs.feed(x, " ".repeat(121));
        Runs.due("policy()", x.policy(), CarriedBack.NOT);
        Runs.due("breach(): not of what was NOT", x.breach(), 7);
        Runs.due("trunk()", x.trunk(), 0);
        Runs.due("breach()", x.breach(), CarriedBack.NONE);
        Runs.due("policy()", Runs.policy(x, "risk 5"), -11);
        Runs.due("breach()", x.breach(), 6);
        Runs.feed(x, " ".repeat(121));
        Runs.due("policy()", x.policy(), CarriedBack.NOT);
        Runs.due("breach()", x.breach(), 6);
        Runs.due("trunk()", x.trunk(), 0);
        Runs.due("policy()", Runs.policy(x, "x"), -11);
        Runs.due("breach()", x.breach(), 0);
        Runs.due("policy()", Runs.policy(x, "risk 1;"), 1);
        Runs.due("breach()", x.breach(), CarriedBack.NONE);
    }

    private static void changes() {
        Runs.about("promise 6");
        CarriedBack x = Runs.of(TRUNK);
        int[][] want = {{1, 0, 0, 1, 0}, {2, 1, 3, 0, 1}, {1, 0, 1, 2, 0}, {4, 0, 0, 4, 0}, {5, 0, 2, 0, 4},
            {2, 4, 0, 0, 0}};
        for (int c = 0; c < 6; c++) {
            for (int what = 0; what < 5; what++) {
                Runs.due("change(" + c + ", " + what + ")", x.change(c, what), want[c][what]);
            }
        }
        Runs.due("change(-1, 0)", x.change(-1, 0), CarriedBack.UNKNOWN);
        Runs.due("change(6, 0)", x.change(6, 0), CarriedBack.UNKNOWN);
        Runs.due("change(6, 9)", x.change(6, 9), CarriedBack.UNKNOWN);
        Runs.due("change(max, 0)", x.change(Integer.MAX_VALUE, 0), CarriedBack.UNKNOWN);
        Runs.due("change(0, -1)", x.change(0, -1), CarriedBack.OUTSIDE);
        Runs.due("change(5, 5)", x.change(5, 5), CarriedBack.OUTSIDE);
        CarriedBack y = Runs.of("change reads 0,15 risk 9;change sets 15 99,0 1;change;fault 1 from 0 till 2;"
            + "fault 2 from 1 till 2;fault 3 from 0;fault 4 from 0 till 1;");
        Runs.due("change(0, 1)", y.change(0, 1), 32769);
        Runs.due("change(1, 0)", y.change(1, 0), 32769);
        Runs.due("change(0, 2)", y.change(0, 2), 9);
        Runs.due("change(0, 3)", y.change(0, 3), 13);
        Runs.due("change(2, 4)", y.change(2, 4), 3);
        Runs.due("change(1, 4)", y.change(1, 4), 8);
        Runs.due("change(1, 3)", y.change(1, 3), 2);
    }

    private static void settings() {
        Runs.about("promise 7");
        CarriedBack x = Runs.of(TRUNK);
        Runs.due("sets(0, 0)", x.sets(0, 0), 1);
        Runs.due("sets(0, 1)", x.sets(0, 1), 0);
        Runs.due("sets(1, 0): read alone", x.sets(1, 0), 0);
        Runs.due("sets(1, 1)", x.sets(1, 1), 2);
        Runs.due("sets(4, 0)", x.sets(4, 0), 5);
        Runs.due("sets(4, 2)", x.sets(4, 2), 6);
        Runs.due("sets(5, 1)", x.sets(5, 1), 7);
        Runs.due("sets(5, 15)", x.sets(5, 15), 0);
        Runs.due("sets(6, 0)", x.sets(6, 0), CarriedBack.UNKNOWN);
        Runs.due("sets(-1, 0)", x.sets(-1, 0), CarriedBack.UNKNOWN);
        Runs.due("sets(0, 16)", x.sets(0, 16), CarriedBack.UNKNOWN);
        Runs.due("sets(0, -1)", x.sets(0, -1), CarriedBack.UNKNOWN);
        Runs.due("sets(1, -16)", x.sets(1, -16), CarriedBack.UNKNOWN);
    }

    private static void aheadOnTrunk() {
        Runs.about("promise 8");
        CarriedBack x = Runs.of(TRUNK);
        int[][] want = {{0, 1, 1, 3, 3, 5, 5}, {0, 0, 2, 2, 2, 2, 7}, {0, 0, 0, 0, 4, 6, 6}, {0, 0, 0, 0, 0, 0, 0}};
        for (int s = 0; s < 4; s++) {
            for (int c = 0; c <= 6; c++) {
                Runs.due("ahead(" + c + ", " + s + ")", x.ahead(c, s), want[s][c]);
            }
        }
        Runs.due("ahead(7, 0)", x.ahead(7, 0), CarriedBack.UNKNOWN);
        Runs.due("ahead(-1, 0)", x.ahead(-1, 0), CarriedBack.UNKNOWN);
        Runs.due("ahead(0, 16)", x.ahead(0, 16), CarriedBack.UNKNOWN);
        Runs.due("ahead(1, -1)", x.ahead(1, -1), CarriedBack.UNKNOWN);
        CarriedBack y = Runs.of("change sets 15 9;".repeat(24));
        Runs.due("ahead(24, 15)", y.ahead(24, 15), 9);
        Runs.due("ahead(25, 15)", y.ahead(25, 15), CarriedBack.UNKNOWN);
    }

    private static void faults() {
        Runs.about("promise 9");
        CarriedBack x = Runs.of(TRUNK);
        int[][] want = {{5, 0, 1}, {7, 2, -1}, {9, 3, 4}};
        for (int f = 0; f < 3; f++) {
            for (int what = 0; what < 3; what++) {
                Runs.due("fault(" + f + ", " + what + ")", x.fault(f, what), want[f][what]);
            }
        }
        Runs.due("fault(3, 0)", x.fault(3, 0), CarriedBack.UNKNOWN);
        Runs.due("fault(-1, 0)", x.fault(-1, 0), CarriedBack.UNKNOWN);
        Runs.due("fault(3, 7)", x.fault(3, 7), CarriedBack.UNKNOWN);
        Runs.due("fault(0, 3)", x.fault(0, 3), CarriedBack.OUTSIDE);
        Runs.due("fault(0, -1)", x.fault(0, -1), CarriedBack.OUTSIDE);
    }

    private static void counts() {
        Runs.about("promise 10");
        CarriedBack x = Runs.of(TRUNK);
        x.cut(1);
        x.cut(2);
        x.release(0, 1);
        Runs.feed(x, "risk");
        Runs.due("count(0)", x.count(0), 6);
        Runs.due("count(1)", x.count(1), 3);
        Runs.due("count(2)", x.count(2), 2);
        Runs.due("count(3)", x.count(3), 1);
        Runs.due("count(4)", x.count(4), 4);
        Runs.due("count(5)", x.count(5), CarriedBack.OUTSIDE);
        Runs.due("count(-1)", x.count(-1), CarriedBack.OUTSIDE);
    }
}
