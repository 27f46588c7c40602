import java.util.NoSuchElementException;

/** For each promise of the document what it says, its edges and its refusals. */
public final class PromiseTest {
    /** Two benches, one kind; by hand: q begins at 2, so wares come at 5, 8, 11, .. */
    private static final String TWO = "ware a;bench p 2;bench q 3;order a every 4 from 1";
    private static final String PAIR = "ware a;ware b;";

    private static int wrong = 0;
    private static int promise = 0;
    private static int checks = 0;

    public static void main(String[] args) {
        newObject();
        feeding();
        texts();
        formFaults();
        boundFaults();
        nameFaults();
        numberFaults();
        faultAndWhere();
        whatIsTold();
        begins();
        runs();
        runOrder();
        rules();
        restsAndSetups();
        countsAndOrders();
        starvedAndPeaks();
        ratesAndBusiest();
        yieldsOnPaper();
        fewestAndThin();
        helpsAndHolds();
        againOnPaper();
        acts();
        undoing();
        imagesKept();
        names();
        troubles();
        System.out.println(checks + " checks, " + wrong + " wrong");
        System.exit(wrong == 0 ? 0 : 1);
    }

    // ---- helpers

    private static void is(String what, long got, long want) {
        checks++;
        if (got != want) {
            wrong++;
            System.out.println("promise " + promise + ": " + what + " answered " + got + ", due is " + want);
        }
    }

    private static void is(String what, boolean got, boolean want) {
        is(what, got ? 1 : 0, want ? 1 : 0);
    }

    private static void refused(PullCards x, String what, long got, int trouble) {
        is(what, got, PullCards.NONE);
        is(what + ", its trouble", x.trouble(), trouble);
        is(what + ", where", x.where(), PullCards.NONE);
    }

    private static void faulty(String text, int fault, int place) {
        PullCards x = Tell.of(TWO);
        is(text, Tell.text(x, text), PullCards.NONE);
        is(text + ", trouble", x.trouble(), 4);
        is(text + ", fault", x.fault(), fault);
        is(text + ", where", x.where(), place);
        is(text + ", tape", x.bytes(), 0);
        is(text + ", benches as they were", x.about(1), 2);
    }

    private static void right(String text, int benches) {
        PullCards x = new PullCards();
        is(text, Tell.text(x, text), benches);
        is(text + ", trouble", x.trouble(), 0);
        is(text + ", fault", x.fault(), 0);
        is(text + ", where", x.where(), PullCards.NONE);
    }

    private static boolean throwsNone(PullCards x, boolean kind, int n, int i) {
        try {
            x.letter(kind, n, i);
            return false;
        } catch (NoSuchElementException e) {
            return true;
        }
    }

    // ---- texts

    private static void newObject() {
        promise = 1;
        PullCards x = new PullCards();
        is("NONE", PullCards.NONE, -1);
        is("trouble()", x.trouble(), 0);
        is("where()", x.where(), -1);
        is("fault()", x.fault(), 0);
        is("bytes()", x.bytes(), 0);
        refused(x, "about(0)", x.about(0), 1);
        refused(x, "bench(0, 0)", x.bench(0, 0), 1);
        refused(x, "stream(0, 0)", x.stream(0, 0), 1);
        refused(x, "run(0)", x.run(0), 1);
        refused(x, "yields(0)", x.yields(0), 1);
        refused(x, "would(0, 0, 10, 0)", x.would(0, 0, 10, 0), 1);
        refused(x, "fewest(-1, 0)", x.fewest(-1, 0), 1);
        refused(x, "thin(0)", x.thin(0), 1);
        refused(x, "thinAt(0, 0, 0)", x.thinAt(0, 0, 0), 1);
        refused(x, "helps(0)", x.helps(0), 1);
        refused(x, "holds(0)", x.holds(0), 1);
        refused(x, "comesAgain(0, 0)", x.comesAgain(0, 0), 1);
        refused(x, "rule(3)", x.rule(3), 1);
        refused(x, "undo()", x.undo(), 1);
        refused(x, "rate(0)", x.rate(0), 1);
        refused(x, "starved(0)", x.starved(0), 1);
        refused(x, "busiest()", x.busiest(), 1);
        is("begin", x.begin(true), false);
        is("keep", x.keep(0), false);
        is("back", x.back(0), false);
        is("letter", throwsNone(x, true, 0, 0), true);
    }

    private static void feeding() {
        promise = 2;
        PullCards x = new PullCards();
        x.about(0);
        for (int i = 1; i <= 30; i++) {
            is("feed " + i, x.feed(0x20202020, 0, -1, 7, 8), 20 * i);
        }
        is("feed behind 600", x.feed(1, 2, 3, 4, 5), -1);
        is("bytes()", x.bytes(), 600);
        is("trouble stays", x.trouble(), 1);
        is("text(601)", x.text(601), -1);
        is("text(600)", x.text(600), -1);
        is("the byte 0 behind four blanks", x.where(), 4);
        is("feed keeps where", x.feed(0, 0, 0, 0, 0), 20);
        is("where()", x.where(), 4);
        is("trouble()", x.trouble(), 4);
        is("highest byte first", Tell.text(Tell.of(TWO), TWO), 2);
        x = new PullCards();
        x.feed(('w' << 24) | ('a' << 16) | ('r' << 8) | 'e', 0x20612020, 0x20202020, 0x20202020, 0x20202020);
        x.text(20);
        is("ware a lacks a bench", x.fault(), 5);
    }

    private static void texts() {
        promise = 3;
        right(TWO, 2);
        right("  ware   a ;bench p1", 1);
        right("ware a;order a every 1 from 0;rule turn;ware b;bench p 60,0001 setup 0 rest 60 every 99;"
            + "cards p a 0;cards p b 9;cards p a 3;order b every 99 from 999", 1);
        right("ware a;ware b;ware c;bench p 1,1,1;bench q 1,1,1;bench r 1,1,1;bench s 1,1,1;bench t 1,1,1;"
            + "bench u 1,1,1;order a every 1 from 0;order a every 1 from 0;order b every 1 from 0;"
            + "order c every 1 from 0", 6);
        right("ware wares;bench benchs 1 setup 60", 1);
        right("ware a;bench p 1" + ";cards p a 1".repeat(48) + "        ", 1);
        PullCards x = Tell.of(TWO);
        Tell.feed(x, TWO);
        refused(x, "text(61)", x.text(61), 2);
        refused(x, "text(-1)", x.text(-1), 2);
        is("the tape stays", x.bytes(), 60);
        is("text(60), blanks behind", x.text(60), 2);
        is("it is empty then", x.bytes(), 0);
        x.run(20);
        x.cards(0, 0, 4);
        x.keep(0);
        Tell.feed(x, "ware z;bench y 7;ware v");
        is("the first bytes alone", x.text(16), 1);
        is("bytes behind are gone, too", x.bytes(), 0);
        is("at its beginning", x.about(4), 0);
        is("cards anew", x.about(5), 1);
        is("no act", x.about(7), 0);
        is("no image", x.back(0), false);
        is("no stream", x.about(2), 0);
        is("delivered", x.orders(0, 1), 0);
    }

    private static void formFaults() {
        promise = 3;
        faulty(",".repeat(600), 1, 0);
        faulty("ware a" + ";".repeat(594), 1, 7);
        faulty("ware " + "a".repeat(595), 1, 5);
        faulty("ware a;bench p " + "1".repeat(585), 1, 15);
        faulty("ware a;bench p 1" + ";cards p a 1".repeat(48) + "       ;", 1, 600);
        faulty("", 1, 0);
        faulty("   ", 1, 3);
        faulty(";", 1, 0);
        faulty("ware", 1, 4);
        faulty("ware ", 1, 5);
        faulty("ware a;", 1, 7);
        faulty("ware a;;bench p 1", 1, 7);
        faulty("ware bench", 1, 5);
        faulty("ware 1", 1, 5);
        faulty("ware sevenss", 1, 5);
        faulty("warewar a", 1, 0);
        faulty("ware a b", 1, 7);
        faulty("ware A", 1, 5);
        faulty("ware aA", 1, 6);
        faulty("ware a\u00e9", 1, 6);
        faulty("ware a;bench", 1, 12);
        faulty("ware a;bench p", 1, 14);
        faulty("ware a;bench p 12345", 1, 15);
        faulty("ware a;bench p 00001", 1, 15);
        faulty("ware a;bench p 1,", 1, 16);
        faulty("ware a;bench p 1 1", 1, 17);
        faulty("ware a;bench p setup 1", 1, 15);
        faulty("ware a;bench p 1 setup", 1, 22);
        faulty("ware a;bench p 1 rest 1", 1, 23);
        faulty("ware a;bench p 1 rest 1 from 2", 1, 24);
        faulty("ware a;bench p 1 rest 1 every 2 setup 1", 1, 32);
        faulty("ware a;bench p 1 setup 1 setup 1", 1, 25);
        faulty(PAIR + "bench p 1;rule turn", 1, 23);
        faulty(PAIR + "bench p 1 setup 1", 1, 24);
        faulty(PAIR + "bench p 1", 1, 23);
        faulty(PAIR + "bench p 1,2,3", 1, 25);
        faulty("bench p", 1, 7);
        faulty("bench p 0", 1, 8);
        faulty("bench p;ware a", 1, 7);
        faulty("ware a;bench p 1;cards rule a 1", 1, 23);
        faulty("ware a;bench p 1;cards p 1", 1, 25);
        faulty("ware a;bench p 1;cards p a", 1, 26);
        faulty("ware a;order a from 1", 1, 15);
        faulty("ware a;order a every 1 every 1", 1, 23);
        faulty("ware a;order a every 1", 1, 22);
        faulty("ware a;rule", 1, 11);
        faulty("ware a;rule b", 1, 12);
        faulty("ware a;rule ware", 1, 12);
        faulty("first", 1, 0);
    }

    private static void boundFaults() {
        promise = 3;
        faulty("ware a;bench p 0", 2, 15);
        faulty("ware a;bench p 61", 2, 15);
        faulty("ware a;bench p 9999 !", 2, 15);
        faulty("ware a;bench p 1 setup 61", 2, 23);
        faulty("ware a;bench p 1 rest 0 every 1", 2, 22);
        faulty("ware a;bench p 1 rest 61 every 1", 2, 22);
        faulty("ware a;bench p 1 rest 1 every 0", 2, 30);
        faulty("ware a;bench p 1 rest 1 every 100", 2, 30);
        faulty("ware a;bench p 1;cards p a 10", 2, 27);
        faulty("ware a;order a every 0 from 0", 2, 21);
        faulty("ware a;order a every 100 from 0", 2, 21);
        faulty("ware a;order a every 1 from 1000", 2, 28);
        faulty(PAIR + "bench p 60,61", 2, 25);
    }

    private static void nameFaults() {
        promise = 3;
        faulty("ware a;ware a", 3, 12);
        faulty("ware a;bench a 1", 3, 13);
        faulty("ware a;bench p 1;bench p 1", 3, 23);
        faulty("ware a;bench p 1;cards q a 1", 3, 23);
        faulty("ware a;bench p 1;cards a a 1", 3, 23);
        faulty("ware a;bench p 1;cards p p 1", 3, 25);
        faulty("ware a;cards p a 1;bench p 1", 3, 13);
        faulty("ware a;order b every 1 from 0", 3, 13);
        faulty("order a every 1 from 0;ware a", 3, 6);
        faulty("ware a;rule first;rule", 3, 18);
        faulty("ware ab;ware abc;ware abc", 3, 22);
    }

    private static void numberFaults() {
        promise = 3;
        faulty("ware a;ware b;ware c;ware", 4, 21);
        faulty("ware a;ware b;ware c;ware d", 4, 21);
        faulty("ware a;bench p 1;ware b;", 4, 17);
        faulty("ware a;bench p 1;bench q 1;bench r 1;bench s 1;bench t 1;bench u 1;bench", 4, 67);
        String four = "ware a;order a every 1 from 0;order a every 1 from 0;order a every 1 from 0;"
            + "order a every 1 from 0;";
        faulty(four + "order", 4, four.length());
        faulty("ware a", 5, 6);
        faulty("ware a;rule most   ", 5, 19);
        faulty("rule most", 5, 9);
    }

    private static void faultAndWhere() {
        promise = 4;
        PullCards x = new PullCards();
        Tell.text(x, "ware a;bench p 0");
        is("fault()", x.fault(), 2);
        promise = 5;
        is("where()", x.where(), 15);
        is("where() again", x.where(), 15);
        x.bytes();
        throwsNone(x, true, 0, 0);
        is("where() behind calls that can't be refused", x.where(), 15);
        x.text(1);
        is("where() behind a refusal by 2", x.where(), -1);
        promise = 4;
        is("fault() behind a refusal by 2", x.fault(), 2);
        Tell.text(x, TWO);
        is("fault() behind a text", x.fault(), 0);
        Tell.text(x, "x");
        is("fault()", x.fault(), 1);
        promise = 5;
        is("where()", x.where(), 0);
        x.about(0);
        is("where() behind a call granted", x.where(), -1);
        promise = 4;
        is("fault() stays", x.fault(), 1);
    }

    // ---- what is told

    private static void whatIsTold() {
        PullCards x = Tell.of(PAIR + "bench p 5,7 setup 2 rest 3 every 4;bench q 1,2;cards q b 6;"
            + "order b every 9 from 8;order a every 7 from 0;rule most");
        promise = 6;
        int[] about = {2, 2, 2, 1, 0, 9, 0, 0};
        for (int i = 0; i < about.length; i++) {
            is("about(" + i + ")", x.about(i), about[i]);
        }
        refused(x, "about(8)", x.about(8), 1);
        refused(x, "about(-1)", x.about(-1), 1);
        x.run(3);
        is("about(4)", x.about(4), 3);
        is("about(6)", x.about(6), 1);
        promise = 7;
        int[] first = {2, 3, 4, 12};
        int[] second = {0, 0, 0, 3};
        for (int i = 0; i < 4; i++) {
            is("bench(0, " + i + ")", x.bench(0, i), first[i]);
            is("bench(1, " + i + ")", x.bench(1, i), second[i]);
        }
        x.time(0, 0, 60);
        is("times as they are now", x.bench(0, 3), 67);
        refused(x, "bench(2, 0)", x.bench(2, 0), 1);
        refused(x, "bench(-1, 0)", x.bench(-1, 0), 1);
        refused(x, "bench(0, 4)", x.bench(0, 4), 1);
        refused(x, "bench(0, -1)", x.bench(0, -1), 1);
        promise = 8;
        is("timeOf(0, 0)", x.timeOf(0, 0), 60);
        is("timeOf(1, 1)", x.timeOf(1, 1), 2);
        refused(x, "timeOf(2, 0)", x.timeOf(2, 0), 1);
        refused(x, "timeOf(0, 2)", x.timeOf(0, 2), 1);
        refused(x, "timeOf(0, -1)", x.timeOf(0, -1), 1);
        promise = 9;
        is("stream(0, 0)", x.stream(0, 0), 1);
        is("stream(0, 1)", x.stream(0, 1), 9);
        is("stream(0, 2)", x.stream(0, 2), 8);
        is("stream(1, 0)", x.stream(1, 0), 0);
        refused(x, "stream(2, 0)", x.stream(2, 0), 1);
        refused(x, "stream(-1, 0)", x.stream(-1, 0), 1);
        refused(x, "stream(0, 3)", x.stream(0, 3), 1);
        promise = 10;
        is("cardsOf(1, 1, 0)", x.cardsOf(1, 1, 0), 6);
        is("cardsOf(0, 0, 2)", x.cardsOf(0, 0, 2), 1);
        is("cardsOf(0, 0, 3)", x.cardsOf(0, 0, 3), 0);
        is("cardsOf(0, 1, 3)", x.cardsOf(0, 1, 3), 1);
        x.begin(true);
        is("cardsOf(1, 1, 1), full", x.cardsOf(1, 1, 1), 6);
        is("cardsOf(1, 1, 3), full", x.cardsOf(1, 1, 3), 0);
        x.cards(1, 1, 4);
        is("told", x.cardsOf(1, 1, 0), 4);
        is("FREE is 0 at least", x.cardsOf(1, 1, 3), 0);
        x.cards(1, 1, 8);
        is("FREE", x.cardsOf(1, 1, 3), 2);
        refused(x, "cardsOf(2, 0, 0)", x.cardsOf(2, 0, 0), 1);
        refused(x, "cardsOf(0, 2, 0)", x.cardsOf(0, 2, 0), 1);
        refused(x, "cardsOf(0, 0, 4)", x.cardsOf(0, 0, 4), 1);
    }

    // ---- the run

    private static void begins() {
        promise = 11;
        PullCards x = Tell.of(TWO + ";cards q a 3");
        x.run(30);
        is("begin(true)", x.begin(true), true);
        is("trouble", x.trouble(), 0);
        is("minute", x.about(4), 0);
        is("all cards are held", x.about(6), 4);
        is("peak", x.peak(1), 3);
        is("finished", x.counts(0, 0), 0);
        is("did last", x.does(0, 3), -2);
        is("came", x.orders(0, 0), 0);
        is("waited", x.orders(0, 3), 0);
        is("first", x.firstOf(0), -2);
        is("minute 1 serves from the store", x.run(2), 1);
        is("begin(false)", x.begin(false), true);
        is("none is held", x.about(6), 0);
        is("peak", x.peak(1), 0);
        x.cards(1, 0, 5);
        is("acts stay", x.about(7), 1);
        x.begin(true);
        is("as many cards as now", x.cardsOf(1, 0, 1), 5);
        is("acts stay", x.undo(), 0);
    }

    private static void runs() {
        promise = 12;
        PullCards x = Tell.of(TWO);
        refused(x, "run(0)", x.run(0), 2);
        refused(x, "run(501)", x.run(501), 2);
        refused(x, "run(-5)", x.run(-5), 2);
        refused(x, "run(MAX)", x.run(Integer.MAX_VALUE), 2);
        is("up to minute 4", x.run(5), 0);
        is("minute 5", x.run(1), 1);
        is("minutes 6 to 8", x.run(3), 1);
        is("minutes 9 to 11: waits since 9", x.run(3), 1);
        x.begin(false);
        for (int i = 0; i < 19; i++) {
            x.run(500);
        }
        is("minute", x.about(4), 9500);
        refused(x, "run(500)", x.run(500), 5);
        is("nothing changed", x.about(4), 9500);
        is("run(499)", x.run(499) > 0, true);
        is("minute", x.about(4), 9999);
        refused(x, "run(1)", x.run(1), 5);
        refused(x, "run(0) tells 2 first", x.run(0), 2);
        promise = 13;
        x.begin(false);
        is("does(0, 0) idle", x.does(0, 0), 0);
        is("does(0, 1) none", x.does(0, 1), -2);
        is("does(0, 2) idle", x.does(0, 2), 0);
        is("does(0, 3) none yet", x.does(0, 3), -2);
        x.run(1);
        is("does(0, 0) works", x.does(0, 0), 1);
        is("does(0, 1)", x.does(0, 1), 0);
        is("does(0, 2)", x.does(0, 2), 1);
        x.run(1);
        is("does(0, 2) ends with the next", x.does(0, 2), 0);
        is("does(1, 0)", x.does(1, 0), 0);
        x.run(1);
        is("does(1, 2)", x.does(1, 2), 2);
        refused(x, "does(2, 0)", x.does(2, 0), 1);
        refused(x, "does(0, 4)", x.does(0, 4), 1);
    }

    /** What is freed by the last bench can be used by those ahead of it in the same minute. */
    private static void runOrder() {
        promise = 12;
        PullCards x = Tell.of("ware a;bench p 1;bench q 1;bench r 1;order a every 1 from 0");
        is("run(10)", x.run(10), 7);
        is("r works from 2 on", x.counts(2, 1), 8);
        is("p never waits", x.counts(0, 1), 10);
        is("starved at the beginning", x.counts(2, 3), 2);
        is("first delivered at 3", x.firstOf(0), 3);
        x = Tell.of("ware a;bench p 1");
        x.run(5);
        is("without orders the one card stays", x.counts(0, 4), 4);
        is("finished", x.counts(0, 0), 1);
        is("lies", x.cardsOf(0, 0, 1), 1);
        x = Tell.of(PAIR + "bench p 1,1;cards p a 0;order a every 1 from 0;order b every 3 from 0");
        is("only b is made, for 0 at 1, for 3, 6, 9 at once", x.run(10), 4);
        is("a waits", x.orders(0, 2), 10);
        x = Tell.of("ware a;bench p 1;cards p a 0");
        x.run(4);
        is("no card at all: blocked", x.counts(0, 4), 4);
    }

    private static void rules() {
        promise = 12;
        String three = "ware a;ware b;ware c;bench p 1,1,1;cards p a 2;cards p b 3;cards p c 3";
        int[][] made = {{0, 0, 1, 1, 1, 2, 2, 2}, {1, 2, 0, 1, 2, 0, 1, 2}, {0, 1, 2, 0, 1, 2, 1, 2}};
        String[] names = {"first", "most", "turn"};
        for (int r = 0; r < 3; r++) {
            PullCards x = Tell.of(three + ";rule " + names[r]);
            is("the rule", x.about(3), r);
            for (int t = 0; t < 8; t++) {
                x.run(1);
                is(names[r] + ", minute " + t, x.does(0, 1), made[r][t]);
            }
            x.run(1);
            is(names[r] + ": none left", x.does(0, 0), 0);
        }
        PullCards x = Tell.of("ware a;ware b;bench p 1,1;bench q 9,9;rule turn;cards q a 2");
        x.run(2);
        is("q has but a", x.does(1, 1), 0);
        x.run(9);
        is("q did a, b is next", x.does(1, 1), 1);
        x.run(9);
        is("q did b, round to a", x.does(1, 1), 0);
    }

    private static void restsAndSetups() {
        promise = 13;
        PullCards x = Tell.of("ware a;bench p 2 rest 3 every 2;order a every 1 from 0");
        int[] does = {1, 1, 1, 1, 2, 2, 2, 1, 1, 1, 1, 2};
        int[] left = {1, 0, 1, 0, 2, 1, 0, 1, 0, 1, 0, 2};
        for (int t = 0; t < does.length; t++) {
            x.run(1);
            is("minute " + t, x.does(0, 0), does[t]);
            is("left behind minute " + t, x.does(0, 2), left[t]);
        }
        is("kind at rest", x.does(0, 1), -2);
        is("kind done last", x.does(0, 3), 0);
        promise = 14;
        is("rested", x.counts(0, 2), 4);
        is("worked", x.counts(0, 1), 8);
        is("finished", x.counts(0, 0), 4);
        promise = 12;
        x = Tell.of(PAIR + "bench p 1,2 setup 3;rule turn;order a every 1 from 0;order b every 1 from 0");
        // a till 1; b and setup till 6; a and setup till 10
        is("the first one without a setup", x.run(2), 1);
        is("till 5", x.run(4), 0);
        is("b at 6", x.run(1), 1);
        is("till 9", x.run(3), 0);
        is("a at 10", x.run(1), 1);
        is("a", x.orders(0, 1), 2);
        is("b", x.orders(1, 1), 1);
        x = Tell.of(PAIR + "bench p 4,4 setup 9;order a every 4 from 4");
        is("the same kind needs none", x.run(13), 3);
    }

    private static void countsAndOrders() {
        promise = 14;
        PullCards x = Tell.of(TWO);
        x.run(10);
        int[] p = {3, 8, 0, 0, 2};
        int[] q = {2, 8, 0, 2, 0};
        for (int i = 0; i < 5; i++) {
            is("counts(0, " + i + ")", x.counts(0, i), p[i]);
            is("counts(1, " + i + ")", x.counts(1, i), q[i]);
        }
        refused(x, "counts(2, 0)", x.counts(2, 0), 1);
        refused(x, "counts(0, 5)", x.counts(0, 5), 1);
        refused(x, "counts(0, -1)", x.counts(0, -1), 1);
        promise = 15;
        int[] orders = {3, 2, 1, 7};
        for (int i = 0; i < 4; i++) {
            is("orders(0, " + i + ")", x.orders(0, i), orders[i]);
        }
        x.run(1);
        is("one minute more, one waits", x.orders(0, 3), 8);
        refused(x, "orders(1, 0)", x.orders(1, 0), 1);
        refused(x, "orders(-1, 0)", x.orders(-1, 0), 1);
        refused(x, "orders(0, 4)", x.orders(0, 4), 1);
        x = Tell.of("ware a;bench p 60;order a every 1 from 0;order a every 2 from 1;order a every 99 from 999");
        x.run(4);
        is("two streams of a kind", x.orders(0, 0), 6);
        is("waited: 3, 2, 2, 1, 0, 0", x.orders(0, 3), 8);
        x.begin(true);
        x.run(2);
        is("one of the three that came is served", x.orders(0, 2), 2);
        promise = 18;
        is("firstOf(0)", x.firstOf(0), 0);
        x.begin(false);
        is("firstOf(0), none", x.firstOf(0), -2);
        is("trouble", x.trouble(), 0);
        x.run(61);
        is("firstOf(0)", x.firstOf(0), 60);
        x.run(200);
        is("firstOf(0) stays", x.firstOf(0), 60);
        refused(x, "firstOf(1)", x.firstOf(1), 1);
        refused(x, "firstOf(-1)", x.firstOf(-1), 1);
    }

    private static void starvedAndPeaks() {
        promise = 16;
        PullCards x = Tell.of("ware a;bench p 5;bench q 1;order a every 1 from 0");
        x.run(6);
        refused(x, "not yet: ahead of its first work it doesn't count", x.starved(0), 6);
        is("though counted", x.counts(1, 3), 5);
        x.run(1);
        is("starved(0)", x.starved(0), 6);
        is("starved(1)", x.starved(1), 1);
        x.run(50);
        is("the first stays", x.starved(0), 6);
        refused(x, "starved(2)", x.starved(2), 1);
        refused(x, "starved(-1)", x.starved(-1), 1);
        x = Tell.of("ware a;bench p 60;bench q 1;bench r 1;order a every 1 from 0");
        x.begin(true);
        x.run(1);
        x.cards(1, 0, 0);
        x.cards(2, 0, 0);
        x.run(1);
        x.cards(2, 0, 1);
        x.run(1);
        x.cards(2, 0, 0);
        x.run(1);
        refused(x, "both are blocked, their stores empty", x.starved(0), 6);
        x.cards(1, 0, 1);
        x.cards(2, 0, 1);
        x.run(1);
        is("both are starved at 4", x.starved(0), 4);
        is("of several the last", x.starved(1), 2);
        x = Tell.of("ware a;bench p 9;bench q 2;bench r 1;order a every 1 from 0");
        x.begin(true);
        x.run(1);
        refused(x, "all three work", x.starved(0), 6);
        x.run(1);
        is("r, at 1", 10 * x.starved(0) + x.starved(1), 12);
        x = Tell.of("ware a;bench p 9;bench q 1;bench r 1;order a every 1 from 0");
        x.begin(true);
        x.run(2);
        is("q alone at 1: r works on", 10 * x.starved(0) + x.starved(1), 11);
        promise = 17;
        x = Tell.of("ware a;bench p 1;bench q 3;cards p a 3;order a every 1 from 0");
        is("peak(0) at the beginning", x.peak(0), 0);
        x.run(2);
        is("peak(0): taken in the minute it was laid", x.peak(0), 0);
        x.run(30);
        is("peak(0)", x.peak(0), 3);
        is("peak(1): delivered in the minute", x.peak(1), 0);
        x.begin(true);
        is("peak(0), full", x.peak(0), 3);
        refused(x, "peak(2)", x.peak(2), 1);
        refused(x, "peak(-1)", x.peak(-1), 1);
        x = Tell.of(PAIR + "bench p 1,1");
        x.run(4);
        is("peak: kinds together", x.peak(0), 2);
    }

    private static void ratesAndBusiest() {
        promise = 19;
        PullCards x = Tell.of(TWO);
        refused(x, "rate(0)", x.rate(0), 5);
        refused(x, "rate(2) tells 1 first", x.rate(2), 1);
        refused(x, "rate(-1)", x.rate(-1), 1);
        x.run(4);
        is("0 by 4, above", x.rate(0), 0);
        is("0 by 4, below", x.rate(1), 1);
        x.run(2);
        is("1 by 6, above", x.rate(0), 1);
        is("1 by 6, below", x.rate(1), 6);
        x.run(4);
        is("2 by 10, above", x.rate(0), 1);
        is("2 by 10, below", x.rate(1), 5);
        promise = 20;
        is("busiest, of like ones the first", x.busiest(), 0);
        x.run(1);
        is("p is blocked at 10, not so q", x.busiest(), 1);
        x.run(300);
        is("busiest in the long run", x.busiest(), 1);
        x.begin(false);
        is("busiest at the beginning", x.busiest(), 0);
    }

    // ---- on paper

    private static void yieldsOnPaper() {
        promise = 21;
        PullCards x = Tell.of(TWO);
        x.run(7);
        is("yields(5)", x.yields(5), 0);
        is("yields(6)", x.yields(6), 1);
        is("yields(9)", x.yields(9), 2);
        is("yields(2000)", x.yields(2000), 500);
        is("the run stays", x.about(4), 7);
        refused(x, "yields(0)", x.yields(0), 2);
        refused(x, "yields(2001)", x.yields(2001), 2);
        x.time(1, 0, 8);
        is("times as now", x.yields(19), 2);
        x.undo();
        x.cards(0, 0, 0);
        is("cards as now", x.yields(2000), 0);
        x.undo();
        promise = 22;
        is("would(1, 0, 0, 100)", x.would(1, 0, 0, 100), 0);
        is("would(1, 0, 1, 9)", x.would(1, 0, 1, 9), 2);
        is("the cards stay", x.about(5), 2);
        is("no act", x.about(7), 0);
        refused(x, "would(2, 0, 0, 1)", x.would(2, 0, 0, 1), 1);
        refused(x, "would(0, 1, 10, 0)", x.would(0, 1, 10, 0), 1);
        refused(x, "would(0, 0, 10, 1)", x.would(0, 0, 10, 1), 2);
        refused(x, "would(0, 0, -1, 1)", x.would(0, 0, -1, 1), 2);
        refused(x, "would(0, 0, 1, 0)", x.would(0, 0, 1, 0), 2);
        refused(x, "would(0, 0, 1, 2001)", x.would(0, 0, 1, 2001), 2);
        promise = 21;
        x = Tell.of(PAIR + "bench p 1,5;order a every 1 from 0;order b every 1 from 0");
        is("by the rule as now", x.yields(10), 9);
        x.rule(2);
        is("by another", x.yields(13), 4);
    }

    private static void fewestAndThin() {
        promise = 23;
        // p and q by turns need a card each that lies while the other works
        PullCards x = Tell.of("ware a;bench p 3;order a every 3 from 30;order a every 3 from 30");
        is("one is ready at 30, one at 33, ..", x.would(0, 0, 1, 31), 1);
        is("fewest(1, 31)", x.fewest(1, 31), 1);
        is("fewest(2, 31)", x.fewest(2, 31), 2);
        is("fewest(2, 34): the second at 33", x.fewest(2, 34), 1);
        is("fewest(3, 31): but two ask", x.fewest(3, 31), -2);
        is("trouble", x.trouble(), 0);
        is("fewest(0, 1)", x.fewest(0, 1), 1);
        is("fewest(9999, 2000)", x.fewest(9999, 2000), -2);
        refused(x, "fewest(10000, 1)", x.fewest(10000, 1), 2);
        refused(x, "fewest(-1, 1)", x.fewest(-1, 1), 2);
        refused(x, "fewest(1, 0)", x.fewest(1, 0), 2);
        refused(x, "fewest(1, 2001)", x.fewest(1, 2001), 2);
        // nine lie at 540; four a minute are asked for from 600 on; the tenth is made at 660
        PullCards slow = Tell.of("ware a;bench p 60;order a every 1 from 600;order a every 1 from 600;"
            + "order a every 1 from 600;order a every 1 from 600");
        is("fewest(8, 603)", slow.fewest(8, 603), 8);
        is("fewest(9, 603)", slow.fewest(9, 603), 9);
        is("fewest(10, 603)", slow.fewest(10, 603), -2);
        promise = 26;
        slow.cards(0, 0, 8);
        is("a ninth helps", slow.helps(603), 0);
        slow.cards(0, 0, 9);
        is("a tenth can't be", slow.helps(603), -2);
        promise = 24;
        x.cards(0, 0, 9);
        is("thin(31): two are needed", x.thin(31), 2);
        is("thin(30): none is", x.thin(30), 0);
        is("the cards stay", x.about(5), 9);
        refused(x, "thin(0)", x.thin(0), 2);
        refused(x, "thin(2001)", x.thin(2001), 2);
        promise = 25;
        is("thinAt(0, 0, 31)", x.thinAt(0, 0, 31), 2);
        refused(x, "thinAt(1, 0, 31)", x.thinAt(1, 0, 31), 1);
        refused(x, "thinAt(0, 1, 0)", x.thinAt(0, 1, 0), 1);
        refused(x, "thinAt(0, 0, 0)", x.thinAt(0, 0, 0), 2);
        refused(x, "thinAt(0, 0, 2001)", x.thinAt(0, 0, 2001), 2);
        x = Tell.of("ware a;bench p 1;bench q 1;cards p a 2;cards q a 2;order a every 1 from 50;order a every 1 from 50;"
            + "order a every 1 from 50");
        is("thin(51): one of p goes, then none", x.thin(51), 3);
        is("left of p", x.thinAt(0, 0, 51), 1);
        is("left of q", x.thinAt(1, 0, 51), 2);
        // either of a and b will do, and of each bench and kind only one goes a round
        x = Tell.of(PAIR + "bench p 1,1;cards p a 3;cards p b 3;order a every 1 from 9;order b every 1 from 9");
        is("thin(10)", x.thin(10), 2);
        is("left of a", x.thinAt(0, 0, 10), 1);
        is("left of b", x.thinAt(0, 1, 10), 1);
        // by turns a's long work holds b up: without a more are delivered
        x = Tell.of(PAIR + "bench p 9,1;rule turn;order a every 9 from 0;order b every 1 from 0");
        is("with both", x.yields(41), 8);
        is("a's card goes", x.thinAt(0, 0, 41), 0);
        is("b's stays", x.thinAt(0, 1, 41), 1);
    }

    private static void helpsAndHolds() {
        promise = 26;
        PullCards x = Tell.of("ware a;ware b;bench p 1,1;bench q 1,1;order b every 9 from 30;order b every 9 from 30");
        is("a second b in the last store", x.helps(31), 4);
        x.cards(1, 1, 9);
        is("no more", x.helps(31), -2);
        is("trouble", x.trouble(), 0);
        x.cards(1, 1, 0);
        is("the first one", x.helps(31), 4);
        for (int b = 0; b < 2; b++) {
            for (int k = 0; k < 2; k++) {
                x.cards(b, k, 9);
            }
        }
        is("none has fewer than 9", x.helps(31), -2);
        refused(x, "helps(0)", x.helps(0), 2);
        refused(x, "helps(2001)", x.helps(2001), 2);
        x = Tell.of("ware a;ware b;bench p 1,1;cards p a 0;cards p b 0;order a every 1 from 0;order b every 1 from 0");
        is("of like ones the first", x.helps(40), 0);
        promise = 27;
        x = Tell.of("ware a;bench p 2;bench q 5;bench r 3;order a every 1 from 0");
        is("holds(500)", x.holds(500), 1);
        is("times stay", x.timeOf(1, 0), 5);
        is("holds(1): of like ones the first", x.holds(1), 0);
        x.time(2, 0, 6);
        is("times as now", x.holds(500), 2);
        refused(x, "holds(0)", x.holds(0), 2);
        refused(x, "holds(2001)", x.holds(2001), 2);
    }

    private static void againOnPaper() {
        promise = 28;
        PullCards x = Tell.of("ware a;bench p 1");
        // minute 0 works; behind 1 and 2 the one ware lies
        is("comesAgain(100, 0)", x.comesAgain(100, 0), 2);
        is("comesAgain(100, 1)", x.comesAgain(100, 1), 1);
        is("comesAgain(3, 0)", x.comesAgain(3, 0), 2);
        is("comesAgain(2, 0)", x.comesAgain(2, 0), -2);
        is("comesAgain(2, 1)", x.comesAgain(2, 1), -2);
        refused(x, "comesAgain(0, 0)", x.comesAgain(0, 0), 2);
        refused(x, "comesAgain(2001, 0)", x.comesAgain(2001, 0), 2);
        refused(x, "comesAgain(0, 2)", x.comesAgain(0, 2), 1);
        refused(x, "comesAgain(1, -1)", x.comesAgain(1, -1), 1);
        x = Tell.of("ware a;bench p 1;order a every 50 from 40");
        is("not ahead of from: 90 at first", x.comesAgain(200, 0), 90);
        is("a period of the stream", x.comesAgain(200, 1), 50);
        is("comesAgain(91, 0)", x.comesAgain(91, 0), 90);
        is("comesAgain(90, 0)", x.comesAgain(90, 0), -2);
        x = Tell.of("ware a;bench p 3;order a every 2 from 0");
        is("ever more wait", x.comesAgain(2000, 0), -2);
        x = Tell.of("ware a;bench p 1 rest 1 every 7;order a every 2 from 0");
        is("seven by EVERY make the period 14", x.comesAgain(2000, 1), 14);
    }

    // ---- acts

    private static void acts() {
        promise = 29;
        PullCards x = Tell.of(TWO);
        is("cards(0, 0, 9)", x.cards(0, 0, 9), 1);
        is("cards(0, 0, 0)", x.cards(0, 0, 0), 9);
        is("cards(0, 0, 0) again", x.cards(0, 0, 0), 0);
        is("acts", x.about(7), 3);
        refused(x, "cards(2, 0, 0)", x.cards(2, 0, 0), 1);
        refused(x, "cards(0, 1, 10)", x.cards(0, 1, 10), 1);
        refused(x, "cards(0, 0, 10)", x.cards(0, 0, 10), 2);
        refused(x, "cards(0, 0, -1)", x.cards(0, 0, -1), 2);
        is("acts", x.about(7), 3);
        is("at once: p can't begin", x.run(3), 0);
        is("blocked", x.counts(0, 4), 3);
        promise = 30;
        x = Tell.of(TWO);
        x.run(1);
        is("time(0, 0, 60)", x.time(0, 0, 60), 2);
        is("what is at work goes on", x.does(0, 2), 1);
        x.run(2);
        is("the next takes so long", x.does(0, 2), 59);
        is("time(0, 0, 1)", x.time(0, 0, 1), 60);
        refused(x, "time(0, 0, 0)", x.time(0, 0, 0), 2);
        refused(x, "time(0, 0, 61)", x.time(0, 0, 61), 2);
        refused(x, "time(0, 1, 0)", x.time(0, 1, 0), 1);
        refused(x, "time(-1, 0, 1)", x.time(-1, 0, 1), 1);
        promise = 31;
        is("rule(2)", x.rule(2), 0);
        is("rule(1)", x.rule(1), 2);
        refused(x, "rule(3)", x.rule(3), 2);
        refused(x, "rule(-1)", x.rule(-1), 2);
        is("about(3)", x.about(3), 1);
    }

    private static void undoing() {
        promise = 32;
        PullCards x = Tell.of(TWO);
        refused(x, "undo()", x.undo(), 5);
        x.cards(0, 0, 2);
        x.time(1, 0, 9);
        x.rule(2);
        x.run(10);
        is("undo the rule", x.undo(), 2);
        is("about(3)", x.about(3), 0);
        is("undo the time", x.undo(), 1);
        is("timeOf(1, 0)", x.timeOf(1, 0), 3);
        is("undo the cards", x.undo(), 0);
        is("cardsOf(0, 0, 0)", x.cardsOf(0, 0, 0), 1);
        is("the run goes on", x.about(4), 10);
        refused(x, "undo()", x.undo(), 5);
        for (int i = 1; i <= 12; i++) {
            x.time(0, 0, 20 + i);
        }
        is("ten can be undone", x.about(7), 10);
        for (int i = 9; i >= 0; i--) {
            is("undo", x.undo(), i);
            is("timeOf(0, 0)", x.timeOf(0, 0), 22 + i);
        }
        refused(x, "undo()", x.undo(), 5);
        x.cards(1, 0, 4);
        x.cards(1, 0, 5);
        is("cards told as they were", x.undo() + 10 * x.cardsOf(1, 0, 0), 41);
    }

    private static void imagesKept() {
        promise = 33;
        PullCards x = Tell.of(TWO);
        x.run(10);
        x.cards(0, 0, 3);
        is("keep(0)", x.keep(0), true);
        is("trouble", x.trouble(), 0);
        is("acts stay", x.about(7), 1);
        is("keep(2)", x.keep(2), false);
        is("trouble", x.trouble(), 1);
        is("keep(-1)", x.keep(-1), false);
        promise = 34;
        is("back(1)", x.back(1), false);
        is("trouble", x.trouble(), 1);
        is("back(2)", x.back(2), false);
        is("back(-1)", x.back(-1), false);
        int next = x.run(50);
        x.rule(2);
        x.time(0, 0, 50);
        x.cards(0, 0, 0);
        x.keep(1);
        x.begin(true);
        is("back(0)", x.back(0), true);
        is("minute", x.about(4), 10);
        is("cards", x.cardsOf(0, 0, 0), 3);
        is("times", x.timeOf(0, 0), 2);
        is("rule", x.about(3), 0);
        is("no act can be undone", x.about(7), 0);
        is("counts", x.counts(0, 4), 2);
        is("waited", x.orders(0, 3), 7);
        is("peak", x.peak(0), 1);
        is("first", x.firstOf(0), 5);
        is("the same follows", x.run(50), next);
        is("back(0) again", x.back(0), true);
        is("the same follows", x.run(50), next);
        is("back(1)", x.back(1), true);
        is("minute", x.about(4), 60);
        is("cards", x.cardsOf(0, 0, 0), 0);
        is("times", x.timeOf(0, 0), 50);
        is("rule", x.about(3), 2);
        x.keep(0);
        x.begin(false);
        x.back(0);
        is("kept anew", x.about(4), 60);
        Tell.text(x, "wares");
        is("a faulty text leaves images", x.back(0), true);
    }

    private static void names() {
        promise = 35;
        PullCards x = Tell.of("ware a;ware zebra;bench pqrstu 1,1;bench b 1,1");
        is("letter(true, 0, 0)", x.letter(true, 0, 0), 0);
        is("letter(true, 1, 0)", x.letter(true, 1, 0), 25);
        is("letter(true, 1, 4)", x.letter(true, 1, 4), 0);
        is("letter(false, 0, 5)", x.letter(false, 0, 5), 20);
        is("letter(false, 1, 0)", x.letter(false, 1, 0), 1);
        x.run(0);
        is("behind the name", throwsNone(x, true, 0, 1), true);
        is("behind the longest", throwsNone(x, false, 0, 6), true);
        is("ahead of it", throwsNone(x, false, 0, -1), true);
        is("no such kind", throwsNone(x, true, 2, 0), true);
        is("no such bench", throwsNone(x, false, 2, 0), true);
        is("none ahead of 0", throwsNone(x, false, -1, 0), true);
        is("none at all", throwsNone(x, true, Integer.MAX_VALUE, Integer.MIN_VALUE), true);
        is("trouble stays", x.trouble(), 2);
        promise = 36;
        is("bytes()", x.bytes(), 0);
        x.feed(0, 0, 0, 0, 0);
        is("bytes()", x.bytes(), 20);
        x.text(0);
        is("bytes()", x.bytes(), 0);
    }

    private static void troubles() {
        promise = 37;
        PullCards x = Tell.of(TWO);
        x.undo();
        is("trouble()", x.trouble(), 5);
        is("trouble() again", x.trouble(), 5);
        x.feed(0, 0, 0, 0, 0);
        x.fault();
        x.where();
        x.bytes();
        is("calls that tell no number leave it", x.trouble(), 5);
        x.about(1);
        is("a call that is granted", x.trouble(), 0);
        x.starved(0);
        is("there is none", x.trouble(), 6);
        x.begin(false);
        is("begin is granted", x.trouble(), 0);
        x.starved(5);
        is("no such what", x.trouble(), 1);
        x.keep(0);
        is("keep is granted", x.trouble(), 0);
        x.run(0);
        x.back(0);
        is("back is granted", x.trouble(), 0);
        x.text(20);
        is("a fault", x.trouble(), 4);
        is("its place", x.where(), 0);
        x.firstOf(0);
        is("granted though -2", x.trouble(), 0);
        is("no place", x.where(), -1);
    }
}
