/** Boundary cases of what is asked on paper, promises 21 to 28, sentence by sentence. */
public final class PaperBoundaryTest extends Sentences {
    private static final String PAIR = "ware a;ware b;";
    private static final String THREE = "ware a;ware b;ware c;";
    private static final String FLOW = ";order a every 1 from 0";
    private static final String TWO = "ware a;bench p 2;bench q 3;order a every 4 from 1";
    /** Up to nine lie ahead of 600, four a minute are asked for, one more is made at 660. */
    private static final String STOCK = "ware a;bench p 60" + ";order a every 1 from 600".repeat(4);

    public static void main(String[] args) {
        paperRuns();
        paperLeavesAll();
        paperOfTheWidest();
        takenOut();
        yieldsTells();
        wouldTells();
        fewestTells();
        thinTells();
        thinAtTells();
        helpsTells();
        holdsTells();
        comesAgainFirst();
        comesAgainOtherwise();
        comesAgainBegun();
        comesAgainTells();
        System.exit(finish());
    }

    private static void paperRuns() {
        sentence("ON PAPER: THE RUN from its beginning, stores empty, for T MINUTES (1 .. 2,000), "
            + "with CARDS, TIMES as now; YIELD: DELIVERED then.");
        for (String text : new String[] {TWO, Refusals.TEXT, "ware a;bench p 1" + FLOW.repeat(4)}) {
            PullCards x = Tell.of(text);
            PullCards y = Tell.of(text);
            y.begin(true);
            y.run(7);
            int delivered = 0;
            for (int t = 1; t <= 40; t++) {
                delivered += x.run(1);
                is(text + ", yields(" + t + ")", y.yields(t), delivered);
            }
            delivered += minutes(x, 1960);
            is(text + ", yields(2000)", y.yields(2000), delivered);
        }
        PullCards x = Tell.of(TWO);
        is("up to minute 4", x.yields(5), 0);
        is("up to minute 5", x.yields(6), 1);
        x.time(1, 0, 1);
        is("times as now: q's ends at 3", x.yields(4), 1);
        x.cards(1, 0, 0);
        is("cards as now", x.yields(2000), 0);
        x.undo();
        x.undo();
        is("as they were", x.yields(6), 1);
    }

    private static void paperLeavesAll() {
        sentence("for T MINUTES (1 .. 2,000), with CARDS, TIMES as now");
        PullCards x = Tell.of(Refusals.TEXT);
        x.begin(true);
        x.run(33);
        x.cards(0, 0, 3);
        x.time(1, 1, 9);
        x.keep(1);
        String ahead = Seen.of(x);
        for (Refusals.Refusal r : Refusals.granted()) {
            if (r.name().matches("(yields|would|fewest|thin|thinAt|helps|holds|comesAgain)\\(.*")) {
                r.call().on(x);
                is(r.name() + " leaves all", Seen.of(x), ahead);
            }
        }
        is("images, too", x.back(1), true);
        x.back(1);
        is("with what they keep", Seen.of(x).replaceAll("about(( \\d+){7}) 0", "about$1 2"), ahead);
    }

    /** Three kinds, six benches, four streams: nothing lies behind the last of them. */
    private static void paperOfTheWidest() {
        sentence("ON PAPER: THE RUN from its beginning, stores empty, for T MINUTES (1 .. 2,000)");
        StringBuilder s = new StringBuilder("ware a;ware b;ware c");
        for (char b = 'p'; b <= 'u'; b++) {
            s.append(";bench ").append(b).append(b == 'u' ? " 1,1,3" : " 1,1,1");
        }
        PullCards x = Tell.of(s + ";order c every 2 from 900".repeat(4));
        granted(x, "one lies at 900, one is made each three minutes", x.yields(907), 3);
        granted(x, "had the last one four", x.would(5, 2, 4, 907), 6);
        granted(x, "four of each", x.fewest(6, 907), 4);
        granted(x, "nine of each", x.fewest(11, 907), 9);
        granted(x, "more than nine of each", x.fewest(12, 907), -2);
        granted(x, "of each bench one of c", x.thin(907), 6);
        granted(x, "of the last one", x.thinAt(5, 2, 907), 1);
        granted(x, "the last bench and kind", x.helps(907), 17);
        granted(x, "the last bench", x.holds(907), 5);
        granted(x, "ever more wait", x.comesAgain(2000, 0), -2);
        is("all is as it was", x.about(5), 18);
    }

    private static void takenOut() {
        sentence("TAKEN OUT: BENCH by BENCH from 0, KIND by KIND a CARD goes, if there are CARDS of it and "
            + "YIELD isn't less without; again and again till none goes any more.");
        // three are asked for at 900; q moves one a minute: p and q together need three
        String three = "ware a;bench p 60;bench q 1" + ";order a every 99 from 900".repeat(3);
        PullCards x = Tell.of(three + ";cards p a 2;cards q a 2");
        is("three by 902", x.yields(903), 3);
        is("bench 0 comes first", x.thinAt(0, 0, 903), 1);
        is("so bench 1 keeps two", x.thinAt(1, 0, 903), 2);
        // one a minute from 900 on: of five and five one of each goes at a time
        x = Tell.of("ware a;bench p 60;bench q 1;order a every 1 from 900;cards p a 5;cards q a 5");
        is("five by 904", x.yields(905), 5);
        is("a card goes, then one of the next", x.thinAt(0, 0, 905), 2);
        is("left of q", x.thinAt(1, 0, 905), 3);
        is("left in all", x.thin(905), 5);
        // by 5 only one can be made: either will do
        x = Tell.of(PAIR + "bench p 5,5;order a every 9 from 0;order b every 9 from 0");
        is("kind 0 comes first", x.thinAt(0, 0, 6), 0);
        is("kind 1 is left", x.thinAt(0, 1, 6), 1);
        x = Tell.of(PAIR + "bench p 1,1;cards p a 0;cards p b 9;order b every 1 from 0");
        is("again and again", x.thinAt(0, 1, 50), 1);
        is("of which there are none", x.thinAt(0, 0, 50), 0);
        x = Tell.of("ware a;bench p 1;cards p a 0" + FLOW);
        is("there are none at all", x.thin(2000), 0);
        lessThanWithIt();
    }

    /** By turns a's long work holds b and c up: without a's card more is delivered, of which c's is a part. */
    private static void lessThanWithIt() {
        PullCards x = Tell.of(THREE + "bench p 9,1,1;rule turn;order a every 9 from 0;order b every 2 from 0;"
            + "order c every 4 from 1");
        int withAll = x.yields(41);
        is("without a's more", x.would(0, 0, 0, 41) > withAll, true);
        x.cards(0, 0, 0);
        is("then without c's less", x.would(0, 2, 0, 41) < x.yields(41), true);
        is("though not less than with all", x.would(0, 2, 0, 41) >= withAll, true);
        x.undo();
        is("a's goes", x.thinAt(0, 0, 41), 0);
        is("b's stays", x.thinAt(0, 1, 41), 1);
        is("c's stays: less than with it", x.thinAt(0, 2, 41), 1);
    }

    // ---- promises 21 to 25

    private static void yieldsTells() {
        sentence("YIELD of T MINUTES. NONE: 1 (no TEXT); 2.");
        edgesOf("yields");
        PullCards x = Tell.of("ware a;bench p 1" + FLOW);
        granted(x, "yields(1)", x.yields(1), 0);
        granted(x, "yields(2)", x.yields(2), 1);
        granted(x, "yields(1999)", x.yields(1999), 1998);
        granted(x, "yields(2000)", x.yields(2000), 1999);
        x = Tell.of("ware a;bench p 1");
        granted(x, "none is asked for", x.yields(2000), 0);
        minutes(x, 9999);
        granted(x, "whatever the run's minute", x.yields(2000), 0);
    }

    private static void wouldTells() {
        sentence("YIELD, had a BENCH n CARDS (0 .. 9) of a KIND. NONE: 1; 2 (n, T).");
        edgesOf("would");
        PullCards x = Tell.of(STOCK);
        for (int n = 0; n <= 9; n++) {
            granted(x, "would(0, 0, " + n + ", 603)", x.would(0, 0, n, 603), n);
        }
        is("cards stay", x.cardsOf(0, 0, 0), 1);
        is("as now", x.yields(603), 1);
        x.cards(0, 0, 9);
        granted(x, "fewer than now", x.would(0, 0, 2, 603), 2);
        x = Tell.of(PAIR + "bench p 1,1;bench q 1,1;order b every 9 from 30;order b every 9 from 30");
        granted(x, "of one bench and kind alone", x.would(1, 1, 2, 31), 2);
        granted(x, "of another kind", x.would(1, 0, 2, 31), 1);
    }

    private static void fewestTells() {
        sentence("The least n (1 .. 9) by which, if all BENCHES had n CARDS of each KIND, "
            + "YIELD were d (0 .. 9,999) or more; -2: by none. NONE: 1 (no TEXT); 2.");
        edgesOf("fewest");
        PullCards x = Tell.of(STOCK);
        granted(x, "fewest(0, 603): 1 at least", x.fewest(0, 603), 1);
        for (int d = 1; d <= 9; d++) {
            granted(x, "fewest(" + d + ", 603)", x.fewest(d, 603), d);
        }
        granted(x, "fewest(10, 603)", x.fewest(10, 603), -2);
        granted(x, "fewest(9999, 2000)", x.fewest(9999, 2000), -2);
        granted(x, "fewest(0, 1)", x.fewest(0, 1), 1);
        granted(x, "fewest(1, 1)", x.fewest(1, 1), -2);
        granted(x, "d or more", x.fewest(3, 603), 3);
        x.cards(0, 0, 0);
        granted(x, "whatever there are now", x.fewest(5, 603), 5);
        is("cards stay", x.about(5), 0);
        x.cards(0, 0, 9);
        granted(x, "whatever there are now", x.fewest(5, 603), 5);
        x = Tell.of(PAIR + "bench p 1,1;bench q 1,1;cards p b 0;cards q a 0"
            + ";order a every 9 from 30;order a every 9 from 30;order b every 9 from 30");
        granted(x, "all benches, each kind", x.fewest(3, 31), 2);
        granted(x, "all benches, each kind", x.fewest(2, 31), 1);
    }

    private static void thinTells() {
        sentence("TAKEN OUT: how many CARDS are left in all. NONE: 1 (no TEXT); 2.");
        edgesOf("thin");
        PullCards x = Tell.of(STOCK + ";cards p a 9");
        granted(x, "four are asked for by 600", x.thin(601), 4);
        granted(x, "eight by 601", x.thin(602), 8);
        granted(x, "all nine are needed", x.thin(603), 9);
        granted(x, "none is delivered", x.thin(600), 0);
        granted(x, "none by the first minute", x.thin(1), 0);
        is("cards stay", x.about(5), 9);
        is("no act", x.about(7), 0);
        x = Tell.of("ware a;bench p 1;bench q 1" + FLOW);
        granted(x, "none can go", x.thin(2000), 2);
    }

    private static void thinAtTells() {
        sentence("TAKEN OUT: how many are left of a BENCH and KIND. NONE: 1; 2.");
        edgesOf("thinAt");
        PullCards x = Tell.of(THREE + "bench p 1,1,1;bench q 1,1,1;cards p c 9;cards q c 9;order c every 1 from 50");
        for (int b = 0; b < 2; b++) {
            granted(x, "no a is asked for", x.thinAt(b, 0, 52), 0);
            granted(x, "no b is asked for", x.thinAt(b, 1, 52), 0);
            granted(x, "one c at 50, one at 51", x.thinAt(b, 2, 52), 1);
        }
        granted(x, "in all", x.thin(52), 2);
        granted(x, "nothing by 49", x.thinAt(1, 2, 50), 0);
        is("cards stay", x.about(5), 22);
    }

    // ---- promises 26 to 28

    private static void helpsTells() {
        sentence("The BENCH and KIND, as 3 b + k, of which a CARD more makes YIELD greatest, of like ones the first "
            + "(of those with fewer than 9); -2: there is none such, or none makes it greater. NONE: 1 (no TEXT); 2.");
        edgesOf("helps");
        PullCards x = Tell.of(STOCK + ";cards p a 8");
        granted(x, "a ninth helps", x.helps(603), 0);
        x.cards(0, 0, 9);
        granted(x, "a tenth can't be", x.helps(603), -2);
        x.cards(0, 0, 0);
        granted(x, "the first one", x.helps(603), 0);
        granted(x, "none makes it greater", x.helps(600), -2);
        granted(x, "none makes it greater", x.helps(1), -2);
        x = Tell.of(PAIR + "bench p 1,1;cards p a 0;cards p b 0" + FLOW + ";order b every 1 from 0");
        granted(x, "of like ones the first", x.helps(40), 0);
        x.cards(0, 0, 9);
        x.cards(0, 1, 9);
        granted(x, "all have nine", x.helps(40), -2);
        x = Tell.of("ware a;bench p 1;cards p a 9");
        granted(x, "the only one has nine, none is delivered", x.helps(40), -2);
        // one more of a or of b makes it 2; two more of b would make it 3
        x = Tell.of(PAIR + "bench p 1,1;cards p b 0" + ";order a every 99 from 90;order b every 99 from 90".repeat(2));
        granted(x, "a card more, not two", x.helps(91), 0);
        x = Tell.of(PAIR + "bench p 1,1;cards p a 0;cards p b 0;order a every 9 from 0;order b every 1 from 0");
        granted(x, "the greatest, not the first that is greater", x.helps(40), 1);
        // the last bench and kind of all: 3 * 5 + 2
        StringBuilder six = new StringBuilder(THREE.substring(0, THREE.length() - 1));
        for (char b = 'p'; b <= 'u'; b++) {
            six.append(";bench ").append(b).append(" 1,1,1");
        }
        x = Tell.of(six + ";order c every 9 from 90".repeat(2));
        granted(x, "3 b + k", x.helps(91), 17);
        x = Tell.of(PAIR + "bench p 1,1;bench q 1,1" + ";order a every 9 from 90".repeat(2));
        granted(x, "3 b + k of two kinds", x.helps(91), 3);
        is("cards stay", x.about(5), 4);
    }

    private static void holdsTells() {
        sentence("The BENCH of which all TIMES, were they 1, make YIELD greatest, of like ones the first. "
            + "NONE: 1 (no TEXT); 2.");
        edgesOf("holds");
        PullCards x = Tell.of("ware a;bench p 2;bench q 5;bench r 3" + FLOW);
        granted(x, "the slowest", x.holds(500), 1);
        granted(x, "none delivers any", x.holds(1), 0);
        is("times stay", x.bench(1, 3), 5);
        x.time(1, 0, 3);
        x.time(0, 0, 3);
        granted(x, "r and q are like, but p comes first", x.holds(1), 0);
        x.time(2, 0, 60);
        granted(x, "the last, by times as now", x.holds(500), 2);
        x = Tell.of("ware a;bench p 1;bench q 1;bench r 1" + FLOW);
        granted(x, "all are 1 as it is", x.holds(500), 0);
        // with q's at 1 the first comes at 4, with q's at 2 it would at 5
        x = Tell.of("ware a;bench p 3;bench q 5" + FLOW);
        granted(x, "up to minute 4", x.holds(5), 1);
        granted(x, "up to minute 3", x.holds(4), 0);
        x = Tell.of(THREE + "bench p 1,1,1;bench q 20,1,1" + FLOW);
        granted(x, "of that bench alone", x.holds(400), 1);
        x = Tell.of(PAIR + "bench p 5,5;bench q 1,20;order b every 1 from 0");
        granted(x, "all its times", x.holds(400), 1);
        x = Tell.of(PAIR + "bench p 20,1;bench q 1,20;rule turn" + FLOW + ";order b every 1 from 0");
        int byActs = holdsByActs(x, 400);
        granted(x, "as by acts", x.holds(400), byActs);
    }

    /** The same by acts, each undone again. */
    private static int holdsByActs(PullCards x, int t) {
        int best = 0;
        int most = -1;
        for (int b = 0; b < x.about(1); b++) {
            for (int k = 0; k < x.about(0); k++) {
                x.time(b, k, 1);
            }
            int swift = x.yields(t);
            if (swift > most) {
                most = swift;
                best = b;
            }
            for (int k = 0; k < x.about(0); k++) {
                x.undo();
            }
        }
        return best;
    }

    /** The first minute that comes again, how much earlier it was; not to be found a minute ahead. */
    private static void again(String text, int minute, int earlier) {
        PullCards x = Tell.of(text);
        granted(x, text + ", comesAgain(2000, 0)", x.comesAgain(2000, 0), minute);
        granted(x, text + ", comesAgain(2000, 1)", x.comesAgain(2000, 1), earlier);
        granted(x, text + ", comesAgain(T, 0) of one more", x.comesAgain(minute + 1, 0), minute);
        granted(x, text + ", comesAgain(T, 1) of one more", x.comesAgain(minute + 1, 1), earlier);
        granted(x, text + ", comesAgain(T, 0) of as many", x.comesAgain(minute, 0), -2);
        granted(x, text + ", comesAgain(T, 1) of as many", x.comesAgain(minute, 1), -2);
    }

    private static void comesAgainFirst() {
        sentence("The first MINUTE (0 .. T less 1) of THE RUN on paper behind which nothing is otherwise "
            + "than behind an earlier one");
        again("ware a;bench p 1;cards p a 0", 1, 1);
        again("ware a;bench p 1", 2, 1);
        // 14 and 99 meet each 1,386 minutes
        again("ware a;bench p 1;order a every 14 from 613;order a every 99 from 613", 1999, 1386);
        int[][] pairs = {{97, 13}, {89, 17}, {98, 15}, {71, 27}, {83, 23}, {64, 31}};
        for (int[] pair : pairs) {
            int all = pair[0] * pair[1];
            String from = " from " + Math.min(999, 1999 - all);
            again("ware a;bench p 1;order a every " + pair[0] + from + ";order a every " + pair[1] + from,
                Math.min(999, 1999 - all) + all, all);
            // both come at 0 and are served at 1 and 2; behind 3 one lies for the first time
            if (all + 3 < 2000) {
                again("ware a;bench p 1;order a every " + pair[0] + " from 0;order a every " + pair[1] + " from 0",
                    all + 3, all);
            }
        }
        PullCards x = Tell.of("ware a;bench p 1;order a every 14 from 614;order a every 99 from 614");
        granted(x, "2,000 would be too late", x.comesAgain(2000, 0), -2);
        granted(x, "how much earlier", x.comesAgain(2000, 1), -2);
        x = Tell.of("ware a;bench p 1");
        x.begin(true);
        x.run(50);
        granted(x, "whatever the run is at", x.comesAgain(100, 0), 2);
        granted(x, "comesAgain(1, 0)", x.comesAgain(1, 0), -2);
    }

    private static void comesAgainOtherwise() {
        sentence("(what each BENCH does and for how long, what it did last, how many it finished by EVERY, STORES, "
            + "how many ORDERS wait, how long till the next of each stream)");
        // works till 10
        again("ware a;bench p 10", 11, 1);
        // rests till 11
        again("ware a;bench p 1 rest 10 every 1", 12, 1);
        // behind 3 and 12 all is alike, but b was done last, then a
        again(PAIR + "bench p 1,1;order a every 9 from 0", 18, 9);
        // a ware each two minutes, a rest each seven wares
        PullCards x = Tell.of("ware a;bench p 1 rest 1 every 7;order a every 2 from 0");
        granted(x, "finished by EVERY", x.comesAgain(2000, 1), 14);
        again("ware a;bench p 1;cards p a 9", 10, 1);
        x = Tell.of("ware a;bench p 3;order a every 2 from 0");
        granted(x, "ever more wait", x.comesAgain(2000, 0), -2);
        String both = ";order a every 5 from 0;order b every 5 from 0";
        for (String none : new String[] {"a", "b"}) {
            x = Tell.of(PAIR + "bench p 1,1;cards p " + none + " 0" + both);
            granted(x, "ever more wait for " + none, x.comesAgain(2000, 0), -2);
        }
        // from 5 on: a till 6, b till 7, then both lie, as they did behind 4
        again(PAIR + "bench p 1,1" + both, 9, 5);
        again("ware a;bench p 1;order a every 50 from 0", 52, 50);
        String six = THREE + "bench p 1,1,1;bench q 1,1,1;bench r 1,1,1;bench s 1,1,1;bench t 1,1,1;bench u 1,1,60";
        again(six, firstMinuteAtRest(six) + 1, 1);
    }

    /** Without orders: the first minute behind which all are idle, from which on nothing changes. */
    private static int firstMinuteAtRest(String text) {
        PullCards x = Tell.of(text);
        boolean idle = false;
        while (!idle && x.run(1) == 0) {
            idle = true;
            for (int b = 0; b < x.about(1); b++) {
                idle &= x.does(b, 0) == 0;
            }
        }
        return x.about(4) - 1;
    }

    private static void comesAgainBegun() {
        sentence("with all streams begun at both (from and later)");
        // behind 1 and 100 all is alike, but behind 1 it hadn't begun
        again("ware a;bench p 1;order a every 99 from 5", 104, 99);
        again("ware a;bench p 1" + FLOW, 1, 1);
        again("ware a;bench p 1;order a every 1 from 5", 6, 1);
        again("ware a;bench p 1;order a every 1 from 999", 1000, 1);
        again("ware a;bench p 1;order a every 50 from 40", 90, 50);
        // the first stream alone would come again from 11 on
        again("ware a;ware b;bench p 1,1;order a every 10 from 0;order b every 10 from 500", 510, 10);
    }

    private static void comesAgainTells() {
        sentence("-2: there is none. what 0: it, 1: how many MINUTES earlier that was (the latest such). "
            + "NONE: 1 (no TEXT, what); 2.");
        edgesOf("comesAgain");
        PullCards x = Tell.of("ware a;bench p 1;cards p a 0" + FLOW);
        granted(x, "there is none", x.comesAgain(2000, 0), -2);
        granted(x, "there is none", x.comesAgain(2000, 1), -2);
        x.cards(0, 0, 1);
        granted(x, "cards as now", x.comesAgain(2000, 0), 1);
        granted(x, "cards as now", x.comesAgain(2000, 1), 1);
        x.time(0, 0, 2);
        granted(x, "times as now: ever more wait", x.comesAgain(2000, 0), -2);
        granted(x, "once it was found and now it isn't", x.comesAgain(2000, 1), -2);
    }
}
