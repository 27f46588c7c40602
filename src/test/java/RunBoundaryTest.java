/** Boundary cases of 'II. THE RUN' and of promises 6 to 20, sentence by sentence. */
public final class RunBoundaryTest extends Sentences {
    private static final String PAIR = "ware a;ware b;";
    private static final String THREE = "ware a;ware b;ware c;";
    private static final String FLOW = ";order a every 1 from 0";
    /** By hand: q begins at 2, so wares come at 5, 8, 11, .. */
    private static final String TWO = "ware a;bench p 2;bench q 3;order a every 4 from 1";

    public static void main(String[] args) {
        freeCards();
        atFirst();
        cardsHeld();
        lastStore();
        minuteInOrder();
        worksEndInStores();
        restsByEvery();
        restsEnd();
        ordersCome();
        asLongAs();
        delivered();
        lastBenchFirst();
        canDo();
        ruleFirst();
        ruleMost();
        ruleTurn();
        wareTaken();
        workEnds();
        blockedOrStarved();
        whoWorksWhoRests();
        firstStarved();
        waitedMinutes();
        fullStores();
        aboutAll();
        benchTells();
        timeOfTells();
        streamTells();
        cardsOfTells();
        begins();
        runTells();
        runInAll();
        doesTells();
        countsTell();
        ordersTell();
        starvedTells();
        peakTells();
        firstOfTells();
        rateTells();
        busiestTells();
        System.exit(finish());
    }

    /** The widest there is: 3 kinds, 6 benches, 4 streams, 9 cards of each. */
    private static String widest() {
        StringBuilder s = new StringBuilder(THREE + "rule most");
        for (char b = 'p'; b <= 'u'; b++) {
            s.append(";bench ").append(b).append(" 60,60,60");
            for (char k = 'a'; k <= 'c'; k++) {
                s.append(";cards ").append(b).append(' ').append(k).append(" 9");
            }
        }
        for (int i = 0; i < 4; i++) {
            s.append(";order c every 99 from ").append(996 + i);
        }
        return s.toString();
    }

    private static void doing(PullCards x, int b, int... does) {
        for (int t = 0; t < does.length; t++) {
            x.run(1);
            is("bench " + b + " behind minute " + (x.about(4) - 1), x.does(b, 0), does[t]);
        }
    }

    // ---- II. the run

    private static void freeCards() {
        sentence("FREE are so many CARDS as are told less those that are held (0 at least)");
        PullCards x = Tell.of("ware a;bench p 1;cards p a 3");
        is("none is held", x.cardsOf(0, 0, 3), 3);
        x.begin(true);
        is("all are held", x.cardsOf(0, 0, 3), 0);
        int[] told = {2, 0, 4, 9, 3};
        int[] free = {0, 0, 1, 6, 0};
        for (int i = 0; i < told.length; i++) {
            x.cards(0, 0, told[i]);
            is("FREE of " + told[i] + ", 3 held", x.cardsOf(0, 0, 3), free[i]);
        }
        x.cards(0, 0, 1);
        x.run(2);
        is("with more held than told it is blocked", x.counts(0, 4), 2);
        x = Tell.of(PAIR + "bench p 1,1;cards p a 3;rule most");
        x.begin(true);
        x.cards(0, 0, 1);
        x.cards(0, 1, 2);
        x.run(1);
        is("only b has a free one", x.does(0, 1), 1);
        x = Tell.of("ware a;bench p 1;cards p a 0");
        is("none is told", x.cardsOf(0, 0, 3), 0);
    }

    private static void atFirst() {
        sentence("at first stores are empty, all BENCHES idle, nothing is asked for");
        PullCards x = Tell.of(Refusals.TEXT);
        for (int i = 0; i < 4; i++) {
            is("in the store", x.cardsOf(i / 2, i % 2, 1), 0);
            is("at work", x.cardsOf(i / 2, i % 2, 2), 0);
        }
        for (int i = 0; i < 2; i++) {
            is("idle", x.does(i, 0), 0);
            is("no order came", x.orders(i, 0), 0);
            is("no order waits", x.orders(i, 2), 0);
        }
        is("minute", x.about(4), 0);
    }

    private static void cardsHeld() {
        sentence("Each ware that lies in STORE b or is at work at BENCH b holds a CARD of BENCH b and its KIND");
        PullCards x = Tell.of(PAIR + "bench p 2,2");
        x.run(1);
        is("a at work", x.cardsOf(0, 0, 2), 1);
        is("a, free", x.cardsOf(0, 0, 3), 0);
        is("b at work", x.cardsOf(0, 1, 2), 0);
        is("b, free", x.cardsOf(0, 1, 3), 1);
        is("held", x.about(6), 1);
        x.run(2);
        is("a in the store", x.cardsOf(0, 0, 1), 1);
        is("a at work", x.cardsOf(0, 0, 2), 0);
        is("a, free", x.cardsOf(0, 0, 3), 0);
        is("b at work", x.cardsOf(0, 1, 2), 1);
        is("held", x.about(6), 2);
        x.run(20);
        is("both in the store", x.cardsOf(0, 0, 1) + x.cardsOf(0, 1, 1), 2);
        is("held", x.about(6), 2);
        is("two were made, no more", x.counts(0, 0), 2);
    }

    private static void lastStore() {
        sentence("the last one is that from which ORDERS are served");
        PullCards x = Tell.of("ware a;bench p 60;bench q 60;cards p a 5" + FLOW);
        x.begin(true);
        is("but one lies in the last store", x.run(3), 1);
        is("those ahead stay", x.cardsOf(0, 0, 1), 4);
        x = Tell.of("ware a;bench p 60;cards p a 5" + FLOW);
        x.begin(true);
        is("of one bench the first is the last", x.run(3), 3);
    }

    private static void minuteInOrder() {
        sentence("a MINUTE t, in this order");
        PullCards x = Tell.of("ware a;bench p 3" + FLOW);
        x.run(3);
        is("ahead of 3 none is delivered", x.orders(0, 1), 0);
        x.run(1);
        is("finished at 3, delivered at 3", x.firstOf(0), 3);
        is("its card is used at 3", x.does(0, 2), 2);
        is("so p was never idle", x.counts(0, 1), 4);
        x = Tell.of("ware a;bench p 3;bench q 1");
        x.run(4);
        is("laid at 3, taken at 3", x.counts(1, 1), 1);
        is("what it begins at 3 isn't starved at 3", x.counts(1, 3), 3);
        x = Tell.of("ware a;bench p 1;order a every 99 from 5");
        x.begin(true);
        x.run(6);
        is("came at 5, served at 5", x.orders(0, 1), 1);
        is("waited", x.orders(0, 3), 0);
    }

    private static void worksEndInStores() {
        sentence("1. BENCH by BENCH, from 0 on: whose work ends at t: the ware lies in its STORE");
        PullCards x = Tell.of(PAIR + "bench p 60,1;cards p b 0");
        x.run(60);
        is("not at 59", x.cardsOf(0, 0, 1), 0);
        x.run(1);
        is("at 60", x.cardsOf(0, 0, 1), 1);
        is("finished", x.counts(0, 0), 1);
        is("of its kind", x.cardsOf(0, 1, 1), 0);
    }

    private static void restsByEvery() {
        sentence("if that was a multiple of EVERY of all it finished, it RESTS till t and REST");
        PullCards x = Tell.of("ware a;bench p 1 rest 60 every 99" + FLOW);
        x.run(99);
        is("98 finished", x.counts(0, 0), 98);
        is("works on", x.does(0, 0), 1);
        x.run(1);
        is("99 finished", x.counts(0, 0), 99);
        is("rests", x.does(0, 0), 2);
        is("59 minutes more", x.does(0, 2), 59);
        x.run(59);
        is("rests still", x.does(0, 0), 2);
        is("ends with the next", x.does(0, 2), 0);
        doing(x, 0, 1);
        x.run(98);
        is("197 finished", x.counts(0, 0), 197);
        is("works on", x.does(0, 0), 1);
        doing(x, 0, 2);
        x = Tell.of("ware a;bench p 1 rest 1 every 1" + FLOW);
        doing(x, 0, 1, 2, 1, 2, 1, 2);
        is("the ware isn't kept back", x.orders(0, 1), 3);
        x = Tell.of(PAIR + "bench p 1,1 rest 5 every 2;rule turn");
        doing(x, 0, 1, 1, 2, 2, 2, 2, 2, 0);
        is("one of each kind: two of all", x.cardsOf(0, 0, 1) + x.cardsOf(0, 1, 1), 2);
    }

    private static void restsEnd() {
        sentence("Whose REST ends at t is idle (behind a REST that begins at t it isn't)");
        PullCards x = Tell.of("ware a;bench p 2 rest 1 every 1" + FLOW);
        doing(x, 0, 1, 1, 2, 1, 1, 2, 1, 1, 2);
        x = Tell.of("ware a;bench p 1 rest 2 every 1");
        doing(x, 0, 1, 2, 2, 0, 0);
        is("rested", x.counts(0, 2), 2);
        is("idle in the minute it ends", x.counts(0, 4), 2);
    }

    private static void ordersCome() {
        sentence("if t is its from, or later by a multiple of its every: an ORDER of its KIND comes");
        PullCards x = Tell.of("ware a;bench p 60;order a every 99 from 999");
        int[] minutes = {999, 1, 98, 1, 98, 1};
        int[] came = {0, 1, 1, 2, 2, 3};
        for (int i = 0; i < minutes.length; i++) {
            minutes(x, minutes[i]);
            is("came ahead of minute " + x.about(4), x.orders(0, 0), came[i]);
        }
        x = Tell.of("ware a;bench p 60" + FLOW);
        for (int i = 1; i <= 5; i++) {
            x.run(1);
            is("one a minute", x.orders(0, 0), i);
        }
        x = Tell.of(PAIR + "bench p 60,60;order b every 2 from 3;order b every 3 from 3");
        x.run(3);
        is("none ahead of from", x.orders(1, 0), 0);
        x.run(1);
        is("of each stream one", x.orders(1, 0), 2);
        x.run(6);
        is("3, 5, 7, 9 and 3, 6, 9", x.orders(1, 0), 7);
        is("none of another kind", x.orders(0, 0), 0);
    }

    private static void asLongAs() {
        sentence("as long as there are ORDERS that wait and wares of it in the last STORE: "
            + "the one that waits longest takes one");
        String three = "ware a;bench p 60;cards p a 3";
        PullCards x = Tell.of(three + ";order a every 9 from 5".repeat(4));
        x.begin(true);
        is("none asks yet", x.run(5), 0);
        is("four ask, three lie", x.run(1), 3);
        is("one waits", x.orders(0, 2), 1);
        is("none lies", x.cardsOf(0, 0, 1), 0);
        x = Tell.of(three + ";order a every 9 from 5".repeat(2));
        x.begin(true);
        is("two ask, three lie", x.run(6), 2);
        is("none waits", x.orders(0, 2), 0);
        is("one lies", x.cardsOf(0, 0, 1), 1);
        x = Tell.of(PAIR + "bench p 60,60;cards p a 0;cards p b 3;order a every 9 from 0");
        x.begin(true);
        is("a is asked for, b lies", x.run(5), 0);
        x = Tell.of(PAIR + "bench p 60,60;order a every 9 from 0;order b every 9 from 0");
        x.begin(true);
        is("kind by kind, both", x.run(1), 2);
    }

    private static void delivered() {
        sentence("(DELIVERED; its CARD is held no more)");
        PullCards x = Tell.of("ware a;bench p 60;bench q 60;cards p a 0;order a every 99 from 1");
        x.begin(true);
        x.run(1);
        is("held", x.cardsOf(1, 0, 3), 0);
        x.run(1);
        is("delivered", x.orders(0, 1), 1);
        is("free", x.cardsOf(1, 0, 3), 1);
        is("none is held", x.about(6), 0);
        x = Tell.of("ware a;bench p 1" + FLOW);
        is("with one card: one a minute from 1 on", x.run(10), 9);
    }

    private static void lastBenchFirst() {
        sentence("BENCH by BENCH, from the last one on to 0: if it is idle");
        PullCards x = Tell.of("ware a;bench p 9;bench q 9;bench r 9;order a every 99 from 0");
        x.begin(true);
        x.run(1);
        for (int b = 0; b < 3; b++) {
            is("a card given free is used at once, bench " + b, x.does(b, 0), 1);
        }
        x = Tell.of("ware a;bench p 1;bench q 1;bench r 1" + FLOW);
        is("through three benches from 3 on", x.run(10), 7);
        is("p never waits", x.counts(0, 1), 10);
    }

    private static void canDo() {
        sentence("it CAN do a KIND of which it has a FREE CARD and there is a ware in the STORE ahead of it "
            + "(BENCH 0 needs none)");
        PullCards x = Tell.of(PAIR + "bench p 1,1;bench q 1,1;cards p a 0;cards q b 0");
        x.run(20);
        is("p makes b, one", x.counts(0, 0), 1);
        is("q has a's card and b's ware", x.counts(1, 0), 0);
        is("it did none", x.does(1, 3), -2);
        x.cards(1, 1, 1);
        x.run(1);
        is("with a card it can", x.does(1, 1), 1);
        x = Tell.of("ware a;bench p 1;cards p a 0");
        x.run(3);
        is("no card", x.does(0, 0), 0);
        x.cards(0, 0, 1);
        x.run(1);
        is("bench 0 needs but a card", x.does(0, 0), 1);
    }

    private static void madeBy(String text, int... kinds) {
        PullCards x = Tell.of(text);
        for (int t = 0; t < kinds.length; t++) {
            x.run(1);
            is(text + ", minute " + t, x.does(0, 1), kinds[t]);
        }
    }

    private static void ruleFirst() {
        sentence("first: the least");
        madeBy(THREE + "bench p 1,1,1;cards p a 2;cards p b 9", 0, 0, 1, 1, 1, 1, 1, 1, 1, 1, 1, 2, -2);
        madeBy(THREE + "bench p 1,1,1;cards p a 0;rule first", 1, 2, -2);
        madeBy("ware a;bench p 1;cards p a 2", 0, 0, -2);
    }

    private static void ruleMost() {
        sentence("most: the one with most FREE CARDS at it, of like ones the least");
        madeBy(THREE + "bench p 1,1,1;cards p a 2;cards p b 3;cards p c 3;rule most", 1, 2, 0, 1, 2, 0, 1, 2, -2);
        madeBy(THREE + "bench p 1,1,1;rule most", 0, 1, 2, -2);
        madeBy(THREE + "bench p 1,1,1;cards p c 9;cards p a 0;rule most", 2, 2, 2, 2, 2, 2, 2, 2, 1, 2, -2);
        madeBy("ware a;bench p 1;rule most", 0, -2);
        // q has four cards of b and one of a, but no b lies ahead of it
        PullCards x = Tell.of(PAIR + "bench p 1,1;bench q 1,1;cards p b 0;cards q b 4;rule most");
        x.run(2);
        is("of those it can do", x.does(1, 1), 0);
    }

    private static void ruleTurn() {
        sentence("turn: the next one behind the KIND it did last, round (ahead of any: the least)");
        madeBy(THREE + "bench p 1,1,1;cards p a 2;cards p b 3;cards p c 3;rule turn", 0, 1, 2, 0, 1, 2, 1, 2, -2);
        madeBy(THREE + "bench p 1,1,1;cards p a 0;cards p c 3;rule turn", 1, 2, 2, 2, -2);
        madeBy(THREE + "bench p 1,1,1;cards p b 0;cards p a 2;cards p c 2;rule turn", 0, 2, 0, 2, -2);
        madeBy("ware a;bench p 1;cards p a 3;rule turn", 0, 0, 0, -2);
        madeBy(THREE + "bench p 1,1,1;cards p a 0;cards p b 0;rule turn", 2, -2);
        PullCards x = Tell.of(PAIR + "bench p 1,1;cards p a 2;cards p b 2");
        x.run(1);
        x.rule(2);
        x.run(1);
        is("the kind done last by another rule counts", x.does(0, 1), 1);
        x.begin(false);
        x.run(1);
        is("at a new beginning none was done", x.does(0, 1), 0);
    }

    private static void wareTaken() {
        sentence("The ware ahead is taken (its CARD there is held no more), a CARD of its own is held.");
        PullCards x = Tell.of("ware a;bench p 1;bench q 5;cards q a 2");
        x.run(2);
        is("taken", x.cardsOf(0, 0, 1), 0);
        is("p works again", x.cardsOf(0, 0, 2), 1);
        is("q's own", x.cardsOf(1, 0, 2), 1);
        is("q's free", x.cardsOf(1, 0, 3), 1);
        is("held", x.about(6), 2);
    }

    private static void workEnds() {
        sentence("The work ends at t and its TIME, and SETUP more if it did another KIND last (not the first time).");
        PullCards x = Tell.of(PAIR + "bench p 1,60 setup 60");
        x.run(1);
        is("the first time none", x.does(0, 2), 0);
        x.run(1);
        is("a is finished", x.counts(0, 0), 1);
        is("b and its setup: 119 more", x.does(0, 2), 119);
        x.run(119);
        is("ends with the next", x.does(0, 2), 0);
        is("works", x.does(0, 0), 1);
        x.run(1);
        is("b is finished", x.counts(0, 0), 2);
        is("a minute of setup is one of work", x.counts(0, 1), 121);
        x = Tell.of("ware a;bench p 60 setup 60;cards p a 2");
        x.run(61);
        is("the same kind needs none", x.does(0, 2), 59);
        x = Tell.of(PAIR + "bench p 1,1 setup 7 rest 5 every 1");
        x.run(7);
        is("behind a rest, too", x.does(0, 2), 7);
        x.begin(false);
        x.cards(0, 0, 0);
        x.run(1);
        is("at a new beginning it is the first time", x.does(0, 2), 0);
        x = Tell.of(PAIR + "bench p 1,1 setup 0");
        x.run(2);
        is("a setup of 0", x.does(0, 2), 0);
    }

    private static void blockedOrStarved() {
        sentence("Who is idle still is BLOCKED, if it has no FREE CARD of any KIND, else STARVED: "
            + "counted for this MINUTE.");
        String line = PAIR + "bench p 1,1;bench q 1,1;cards p b 0";
        PullCards x = Tell.of(line);
        x.run(10);
        is("q has b's card: starved at 0 and from 2 on", x.counts(1, 3), 9);
        is("q isn't blocked", x.counts(1, 4), 0);
        is("p is blocked from 2 on", x.counts(0, 4), 8);
        is("bench 0 never starves", x.counts(0, 3), 0);
        x = Tell.of(line + ";cards q b 0");
        x.run(10);
        is("q without b's card: starved at 0", x.counts(1, 3), 1);
        is("blocked from 2 on", x.counts(1, 4), 8);
        x = Tell.of(PAIR + "bench p 1,1;bench q 1,1;cards q a 0;cards q b 0");
        x.run(4);
        is("without any card blocked from 0 on", x.counts(1, 4), 4);
    }

    private static void whoWorksWhoRests() {
        sentence("Who works, who RESTS: likewise.");
        PullCards x = Tell.of("ware a;bench p 2 rest 3 every 1;bench q 1" + FLOW);
        x.run(11);
        // p: 0 1 works, 2 3 4 rests, 5 6, 7 8 9, 10; q: works at 2 and at 7
        int[] p = {2, 5, 6, 0, 0};
        int[] q = {2, 2, 0, 9, 0};
        for (int what = 0; what < 5; what++) {
            is("counts(0, " + what + ")", x.counts(0, what), p[what]);
            is("counts(1, " + what + ")", x.counts(1, what), q[what]);
        }
    }

    private static void firstStarved() {
        sentence("The first STARVED: the first MINUTE in which a BENCH is STARVED that has begun some work ahead; "
            + "of several the last BENCH.");
        PullCards x = Tell.of("ware a;bench p 60;bench q 1 rest 3 every 1;bench r 3" + FLOW);
        minutes(x, 64);
        is("starved, but ahead of any work", x.counts(2, 3), 61);
        refused(x, "starved(0)", x.starved(0), 6);
        x.run(1);
        is("q's rest and r's work end at 64", x.counts(1, 3), 61);
        is("r, too, is starved then", x.counts(2, 3), 62);
        is("the minute", x.starved(0), 64);
        is("of both the last", x.starved(1), 2);
        minutes(x, 300);
        is("the first stays", x.starved(0), 64);
        is("its bench, too", x.starved(1), 2);
        x = Tell.of("ware a;bench p 5;bench q 1" + FLOW);
        x.run(6);
        refused(x, "q begins at 5", x.starved(0), 6);
        x.run(1);
        is("the minute behind its work", x.starved(0), 6);
        is("q", x.starved(1), 1);
        x = Tell.of("ware a;bench p 1;bench q 1");
        x.run(500);
        refused(x, "blocked isn't starved", x.starved(0), 6);
    }

    private static void waitedMinutes() {
        sentence("WAITED: of each ORDER the minutes from the one it came in to that of its ware, together; "
            + "of those that wait: to THE RUN's MINUTE less 1.");
        PullCards x = Tell.of("ware a;bench p 1;cards p a 9" + FLOW);
        x.begin(true);
        is("nine are served at once", x.run(9), 9);
        is("waited", x.orders(0, 3), 0);
        x = Tell.of("ware a;bench p 60;order a every 99 from 5");
        x.run(5);
        is("none came", x.orders(0, 3), 0);
        x.run(1);
        is("in the minute it came", x.orders(0, 3), 0);
        x.run(1);
        is("a minute behind", x.orders(0, 3), 1);
        x.run(53);
        is("ahead of minute 60", x.orders(0, 3), 54);
        x.run(1);
        is("served at 60", x.orders(0, 3), 55);
        x.run(40);
        is("that stays", x.orders(0, 3), 55);
        x = Tell.of("ware a;bench p 60" + FLOW.repeat(4));
        minutes(x, 9999);
        // 4 a minute wait, but for those that were served at 60, 120, .. : 166 of them
        long waited = 0;
        for (int t = 0; t < 9999; t++) {
            waited += 4L * (9998 - t);
        }
        for (int i = 1; i <= 166; i++) {
            waited -= 9998 - 60L * i;
        }
        is("the most there is", x.orders(0, 3), waited);
        is("wait", x.orders(0, 2), 4 * 9999 - 166);
    }

    private static void fullStores() {
        sentence("FULL: at the beginning all CARDS told are held by wares in the STORES.");
        PullCards x = Tell.of(PAIR + "bench p 1,1;bench q 1,1;cards p a 0;cards p b 9");
        x.begin(true);
        int[] lie = {0, 9, 1, 1};
        for (int i = 0; i < 4; i++) {
            is("in the store", x.cardsOf(i / 2, i % 2, 1), lie[i]);
            is("at work", x.cardsOf(i / 2, i % 2, 2), 0);
            is("free", x.cardsOf(i / 2, i % 2, 3), 0);
        }
        is("held", x.about(6), 11);
        is("idle", x.does(0, 0) + x.does(1, 0), 0);
        x.cards(0, 0, 3);
        is("none lies at once", x.cardsOf(0, 0, 1), 0);
        x.begin(true);
        is("as told now", x.cardsOf(0, 0, 1), 3);
        x.cards(0, 1, 0);
        x.begin(true);
        is("as told now", x.cardsOf(0, 1, 1), 0);
        x.begin(false);
        is("not full", x.about(6), 0);
    }

    // ---- promises 6 to 10

    private static void aboutAll() {
        sentence("0 KINDS, 1 BENCHES, 2 streams, 3 THE RULE, 4 THE RUN's MINUTE (the next one that it goes through), "
            + "5 all CARDS told, 6 those that are held, 7 ACTS that can be undone. NONE: 1 (no TEXT, what).");
        edgesOf("about");
        PullCards x = Tell.of("ware a;bench p 1;cards p a 0");
        int[] least = {1, 1, 0, 0, 0, 0, 0, 0};
        for (int what = 0; what < 8; what++) {
            granted(x, "the least, about(" + what + ")", x.about(what), least[what]);
        }
        x = Tell.of(widest());
        x.begin(true);
        int[] most = {3, 6, 4, 1, 0, 162, 162, 0};
        for (int what = 0; what < 8; what++) {
            granted(x, "the most, about(" + what + ")", x.about(what), most[what]);
        }
        for (int i = 0; i < 18; i++) {
            x.cards(i / 3, i % 3, 0);
        }
        is("none is told", x.about(5), 0);
        is("all are held still", x.about(6), 162);
        is("acts", x.about(7), 10);
        x.run(1);
        is("the next minute", x.about(4), 1);
        minutes(x, 9998);
        is("the last one", x.about(4), 9999);
        Tell.text(x, widest());
        Tell.text(x, "ware a;bench p 1");
        is("cards of a text ahead don't count", x.about(5), 1);
        x.begin(true);
        is("nor are they held", x.about(6), 1);
    }

    private static void benchTells() {
        sentence("Of a BENCH 0 SETUP, 1 REST (0 without), 2 EVERY (0 without), 3 TIMES of all KINDS together. "
            + "NONE: 1 (what, too).");
        edgesOf("bench");
        PullCards x = Tell.of(THREE + "bench p 60,60,60 setup 60 rest 60 every 99;bench q 1,1,1");
        int[] p = {60, 60, 99, 180};
        int[] q = {0, 0, 0, 3};
        for (int what = 0; what < 4; what++) {
            granted(x, "bench(0, " + what + ")", x.bench(0, what), p[what]);
            granted(x, "bench(1, " + what + ")", x.bench(1, what), q[what]);
        }
        x.time(1, 2, 60);
        is("times as they are now", x.bench(1, 3), 62);
        Tell.text(x, "ware a;bench p 7");
        is("times of a text ahead don't count", x.bench(0, 3), 7);
    }

    private static void timeOfTells() {
        sentence("TIME of a BENCH and KIND. NONE: 1.");
        edgesOf("timeOf");
        PullCards x = Tell.of(widest());
        granted(x, "timeOf(5, 2)", x.timeOf(5, 2), 60);
        refused(x, "timeOf(6, 0)", x.timeOf(6, 0), 1);
        refused(x, "timeOf(0, 3)", x.timeOf(0, 3), 1);
        x.time(5, 2, 1);
        is("as it is now", x.timeOf(5, 2), 1);
        Tell.text(x, "ware a;bench p 1");
        refused(x, "a bench of a text ahead", x.timeOf(1, 0), 1);
        refused(x, "a kind of a text ahead", x.timeOf(0, 1), 1);
    }

    private static void streamTells() {
        sentence("Of a stream 0 its KIND, 1 every, 2 from. NONE: 1 (what, too).");
        edgesOf("stream");
        PullCards x = Tell.of(widest());
        granted(x, "kind of the last", x.stream(3, 0), 2);
        granted(x, "every of the last", x.stream(3, 1), 99);
        granted(x, "from of the last", x.stream(3, 2), 999);
        refused(x, "stream(4, 0)", x.stream(4, 0), 1);
        Tell.text(x, "ware a;bench p 1");
        refused(x, "there is none", x.stream(0, 0), 1);
    }

    private static void cardsOfTells() {
        sentence("CARDS of a BENCH and KIND 0 told, 1 by wares in its STORE, 2 at work, 3 FREE. NONE: 1 (what, too).");
        edgesOf("cardsOf");
        PullCards x = Tell.of(widest());
        x.begin(true);
        int[] all = {9, 9, 0, 0};
        for (int what = 0; what < 4; what++) {
            granted(x, "cardsOf(5, 2, " + what + ")", x.cardsOf(5, 2, what), all[what]);
        }
        x.cards(5, 2, 8);
        is("told, fewer than lie", x.cardsOf(5, 2, 0), 8);
        is("in the store", x.cardsOf(5, 2, 1), 9);
        x = Tell.of("ware a;bench p 1 rest 9 every 1");
        x.run(2);
        is("what rests has none at work", x.cardsOf(0, 0, 2), 0);
        is("it lies", x.cardsOf(0, 0, 1), 1);
    }

    // ---- promises 11 to 20

    private static void begins() {
        sentence("THE RUN is at its beginning (full: FULL): true; false: 1 (no TEXT).");
        PullCards x = new PullCards();
        refused(x, "begin(false)", x.begin(false), 1);
        refused(x, "begin(true)", x.begin(true), 1);
        Tell.text(x, "ware a");
        refused(x, "behind a faulty text", x.begin(true), 1);
        x = Tell.of(Refusals.TEXT);
        String fresh = Seen.of(x);
        minutes(x, 1000);
        is("begin(false)", x.begin(false), true);
        is("trouble", x.trouble(), 0);
        is("all as at first", Seen.of(x), fresh);
        is("begin(true)", x.begin(true), true);
        is("trouble", x.trouble(), 0);
        String full = Seen.of(x);
        minutes(x, 1000);
        x.begin(true);
        is("all as it was full", Seen.of(x), full);
        x.begin(true);
        is("begun twice", Seen.of(x), full);
    }

    private static void runTells() {
        sentence("n MINUTES (1 .. 500): how many were DELIVERED in them.");
        edgesOf("run");
        PullCards x = Tell.of(TWO);
        granted(x, "run(1)", x.run(1), 0);
        is("minute", x.about(4), 1);
        x.run(4);
        granted(x, "run(1), minute 5", x.run(1), 1);
        granted(x, "run(1), minute 6", x.run(1), 0);
        // orders at 1, 5, .. 505, all of them served by 506, one of them ahead of minute 7
        granted(x, "run(500)", x.run(500), 126);
        is("minute", x.about(4), 507);
        x = Tell.of("ware a;bench p 60;cards p a 9" + FLOW.repeat(4));
        x.begin(true);
        granted(x, "several in a minute", x.run(1), 4);
        PullCards y = Tell.of("ware a;bench p 60;cards p a 9" + FLOW.repeat(4));
        y.begin(true);
        for (int i = 0; i < 500; i++) {
            y.run(1);
        }
        x.run(499);
        is("500 by one are 500 at once", Seen.of(x), Seen.of(y));
    }

    private static void runInAll() {
        sentence("NONE: 1 (no TEXT); 2; 5 (there would be more than 9,999 in all).");
        PullCards x = Tell.of(TWO);
        for (int i = 0; i < 19; i++) {
            x.run(500);
        }
        String ahead = Seen.of(x);
        refused(x, "run(500), 10,000", x.run(500), 5);
        is("nothing changed", Seen.of(x), ahead);
        is("run(499), 9,999", x.run(499) > 0, true);
        is("its trouble", x.trouble(), 0);
        is("minute", x.about(4), 9999);
        refused(x, "run(1), 10,000", x.run(1), 5);
        refused(x, "run(500)", x.run(500), 5);
        refused(x, "run(0): 2 is told first", x.run(0), 2);
        refused(x, "run(501): 2 is told first", x.run(501), 2);
        x.keep(0);
        x.begin(false);
        is("from the beginning it goes on", x.run(500) > 0, true);
        x.back(0);
        refused(x, "back at 9,999", x.run(1), 5);
        Tell.text(x, TWO);
        granted(x, "by a new text it goes on", x.run(1), 0);
        x = Tell.of("ware a;bench p 1;order a every 1 from 0");
        is("so many", minutes(x, 9998), 9997);
        granted(x, "the last one", x.run(1), 1);
    }

    private static void doesTells() {
        sentence("Of a BENCH 0 what it does (0 idle, 1 works, 2 RESTS), 1 the KIND at work (-2: none), "
            + "2 how many MINUTES more it works, RESTS behind those gone (0, too, if that ends with the next one; "
            + "of one that is idle), 3 the KIND it did last, or does (-2: none yet). NONE: 1 (what, too).");
        edgesOf("does");
        PullCards x = Tell.of(PAIR + "bench p 2,2 rest 2 every 2;cards p a 0;cards p b 2");
        // b at 0 and 2, rest at 4 and 5, idle from 6 on
        int[][] due = {{0, -2, 0, -2}, {1, 1, 1, 1}, {1, 1, 0, 1}, {1, 1, 1, 1}, {1, 1, 0, 1}, {2, -2, 1, 1},
            {2, -2, 0, 1}, {0, -2, 0, 1}, {0, -2, 0, 1}};
        for (int t = 0; t < due.length; t++) {
            for (int what = 0; what < 4; what++) {
                granted(x, t + " minutes gone, does(0, " + what + ")", x.does(0, what), due[t][what]);
            }
            x.run(1);
        }
        x = Tell.of("ware a;bench p 60 setup 60");
        x.run(1);
        is("59 more", x.does(0, 2), 59);
        x.begin(true);
        is("full, none did any", x.does(0, 3), -2);
    }

    private static void countsTell() {
        sentence("Of a BENCH 0 how many wares it has finished, in how many MINUTES it 1 worked, 2 RESTED, "
            + "3 was STARVED, 4 was BLOCKED. NONE: 1 (what, too).");
        edgesOf("counts");
        PullCards x = Tell.of(Refusals.TEXT);
        for (int t = 0; t <= 40; t++) {
            for (int b = 0; b < 2; b++) {
                int sum = x.counts(b, 1) + x.counts(b, 2) + x.counts(b, 3) + x.counts(b, 4);
                is("each minute is counted once, bench " + b, sum, t);
            }
            x.run(1);
        }
        x = Tell.of("ware a;bench p 1;order a every 1 from 0");
        minutes(x, 9999);
        granted(x, "finished", x.counts(0, 0), 9998);
        granted(x, "worked", x.counts(0, 1), 9999);
    }

    private static void ordersTell() {
        sentence("Of a KIND 0 how many ORDERS came, 1 were DELIVERED, 2 wait, 3 how long they WAITED. "
            + "NONE: 1 (what, too).");
        edgesOf("orders");
        PullCards x = Tell.of(PAIR + "bench p 1,1;cards p b 0;order a every 2 from 0;order b every 3 from 0");
        int[] none = {0, 0, 0, 0};
        int[] a = {5, 5, 0, 1};
        int[] b = {4, 0, 4, 18};
        for (int what = 0; what < 4; what++) {
            granted(x, "at the beginning", x.orders(0, what), none[what]);
        }
        x.run(10);
        for (int what = 0; what < 4; what++) {
            granted(x, "orders(0, " + what + ")", x.orders(0, what), a[what]);
            granted(x, "orders(1, " + what + ")", x.orders(1, what), b[what]);
        }
    }

    private static void starvedTells() {
        sentence("The first STARVED: its MINUTE (what 0), the BENCH (1). NONE: 1 (no TEXT, what); 6 (there was none).");
        edgesOf("starved");
        PullCards x = Tell.of("ware a;bench p 5;bench q 1" + FLOW);
        refused(x, "starved(0), at the beginning", x.starved(0), 6);
        refused(x, "starved(1), at the beginning", x.starved(1), 6);
        refused(x, "starved(2): 1 is told first", x.starved(2), 1);
        x.run(7);
        granted(x, "starved(0)", x.starved(0), 6);
        granted(x, "starved(1)", x.starved(1), 1);
        x.begin(false);
        refused(x, "at a new beginning", x.starved(0), 6);
        x = Tell.of("ware a;bench p 60;bench q 1;cards p a 0" + FLOW);
        x.cards(0, 0, 1);
        x.begin(true);
        x.run(2);
        granted(x, "starved(0) behind two minutes", x.starved(0), 1);
    }

    private static void peakTells() {
        sentence("The most wares that lay in STORE b together behind a MINUTE of THE RUN (at its beginning, too). NONE: 1.");
        edgesOf("peak");
        PullCards x = Tell.of(widest());
        granted(x, "empty", x.peak(5), 0);
        x.begin(true);
        granted(x, "27 at the beginning", x.peak(5), 27);
        minutes(x, 1000);
        is("four were taken", x.orders(2, 1), 4);
        granted(x, "the most stays", x.peak(5), 27);
        x.begin(false);
        granted(x, "a new beginning", x.peak(5), 0);
        x = Tell.of("ware a;bench p 1;bench q 3;cards p a 3" + FLOW);
        x.run(2);
        is("taken in the minute it was laid", x.peak(0), 0);
        x.run(1);
        is("behind minute 2 one lies", x.peak(0), 1);
        x.run(100);
        is("three at most", x.peak(0), 3);
        is("delivered in the minute it was laid", x.peak(1), 0);
        x = Tell.of(PAIR + "bench p 1,1;cards p a 0;cards p b 2;order b every 1 from 3");
        x.run(3);
        is("two lie behind minute 2", x.peak(0), 2);
        x.run(9);
        is("fewer lie later", x.peak(0), 2);
    }

    private static void firstOfTells() {
        sentence("The first MINUTE in which a ware of a KIND was DELIVERED; -2: none was. NONE: 1.");
        edgesOf("firstOf");
        PullCards x = Tell.of(PAIR + "bench p 2,2" + FLOW);
        granted(x, "none was", x.firstOf(0), -2);
        x.run(2);
        granted(x, "none was", x.firstOf(0), -2);
        x.run(1);
        granted(x, "at 2", x.firstOf(0), 2);
        x.run(100);
        granted(x, "the first stays", x.firstOf(0), 2);
        granted(x, "none asks for b", x.firstOf(1), -2);
        x.begin(true);
        granted(x, "a new beginning", x.firstOf(0), -2);
        x.run(1);
        granted(x, "minute 0", x.firstOf(0), 0);
    }

    private static void rateTells() {
        sentence("DELIVERED by MINUTES gone, in lowest terms: above (what 0), below (1). "
            + "NONE: 1 (no TEXT, what); 5 (at the beginning).");
        edgesOf("rate");
        PullCards x = Tell.of("ware a;bench p 60;cards p a 8" + FLOW.repeat(4));
        refused(x, "rate(0), at the beginning", x.rate(0), 5);
        refused(x, "rate(1), at the beginning", x.rate(1), 5);
        refused(x, "rate(2): 1 is told first", x.rate(2), 1);
        x.begin(true);
        refused(x, "full, at the beginning", x.rate(0), 5);
        int[][] due = {{4, 1}, {4, 1}, {8, 3}, {2, 1}, {8, 5}, {4, 3}};
        for (int t = 0; t < due.length; t++) {
            x.run(1);
            granted(x, "above, " + (t + 1) + " gone", x.rate(0), due[t][0]);
            granted(x, "below, " + (t + 1) + " gone", x.rate(1), due[t][1]);
        }
        x.begin(false);
        refused(x, "begun anew", x.rate(1), 5);
        x.run(50);
        granted(x, "none of 50, above", x.rate(0), 0);
        granted(x, "none of 50, below", x.rate(1), 1);
        x = Tell.of("ware a;bench p 1;order a every 3 from 0");
        minutes(x, 9999);
        granted(x, "3,333 of 9,999, above", x.rate(0), 1);
        granted(x, "3,333 of 9,999, below", x.rate(1), 3);
    }

    private static void busiestTells() {
        sentence("The BENCH that worked in most MINUTES, of like ones the first. NONE: 1 (no TEXT).");
        edgesOf("busiest");
        PullCards x = Tell.of("ware a;bench p 1;bench q 5;bench r 5" + FLOW);
        granted(x, "none worked", x.busiest(), 0);
        x.begin(true);
        x.run(1);
        granted(x, "all worked in one", x.busiest(), 0);
        x.run(9);
        is("q and r worked in ten", x.counts(1, 1) + x.counts(2, 1), 20);
        granted(x, "of both the first", x.busiest(), 1);
        x = Tell.of("ware a;bench p 1;bench q 1;bench r 60");
        x.run(100);
        granted(x, "the last", x.busiest(), 2);
        x = Tell.of("ware a;bench p 1");
        x.run(3);
        granted(x, "the only one", x.busiest(), 0);
        x = Tell.of("ware a;bench p 1;bench q 1;bench r 1;bench s 1;bench t 1;bench u 60");
        x.run(100);
        granted(x, "the last of six", x.busiest(), 5);
    }
}
