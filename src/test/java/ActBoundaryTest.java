/** Boundary cases of 'III. ACTS', images and trouble, and of promises 29 to 37, sentence by sentence. */
public final class ActBoundaryTest extends Sentences {
    private static final String ONE = "ware a;bench p 1";
    private static final String PAIR = "ware a;ware b;";
    private static final String FLOW = ";order a every 1 from 0";
    private static final String TWO = "ware a;bench p 2;bench q 3;order a every 4 from 1";

    public static void main(String[] args) {
        changesAtOnce();
        latestTen();
        toldAsItWas();
        runGoesOn();
        textLeavesNoAct();
        imagesKeep();
        backAsThen();
        backLeavesNoAct();
        textLeavesNoImage();
        troubleOfLatest();
        troubleNumbers();
        toldFirst();
        refusedChangesNothing();
        refusedByFault();
        noneIsMinusOne();
        cardsAct();
        timeAct();
        ruleAct();
        undoTells();
        keepTells();
        backTells();
        letterTells();
        letterThrows();
        bytesTell();
        troubleTells();
        as512Calls();
        System.exit(finish());
    }

    // ---- III. acts

    private static void changesAtOnce() {
        sentence("(changes hold at once; what is at work, at rest goes on as it was begun)");
        PullCards x = Tell.of("ware a;bench p 5;cards p a 2" + FLOW);
        x.run(1);
        x.time(0, 0, 60);
        is("at work as it was begun", x.does(0, 2), 4);
        x.run(5);
        is("the next one by the new time", x.does(0, 2), 59);
        x.time(0, 0, 1);
        is("as it was begun", x.does(0, 2), 59);
        x.cards(0, 0, 0);
        is("at work it stays", x.cardsOf(0, 0, 2), 1);
        is("none is free", x.cardsOf(0, 0, 3), 0);
        x.run(60);
        is("it is finished and delivered", x.orders(0, 1), 2);
        is("the next can't begin", x.does(0, 0), 0);
        x.cards(0, 0, 1);
        is("free at once", x.cardsOf(0, 0, 3), 1);
        x.run(1);
        is("so it begins", x.does(0, 0), 1);
        x = Tell.of("ware a;bench p 1 rest 9 every 1");
        x.run(2);
        x.cards(0, 0, 9);
        x.time(0, 0, 60);
        x.rule(2);
        is("at rest as it was begun", x.does(0, 2), 8);
        x.run(9);
        is("then by the new time", x.does(0, 2), 59);
        x = Tell.of(PAIR + "bench p 1,1;cards p a 2;cards p b 3");
        x.rule(1);
        x.run(1);
        is("the rule, at once", x.does(0, 1), 1);
        x.rule(0);
        x.run(1);
        is("and another", x.does(0, 1), 0);
    }

    private static void latestTen() {
        sentence("the latest 10 that weren't refused can be undone, the latest first");
        PullCards x = Tell.of(ONE);
        for (int i = 1; i <= 10; i++) {
            x.time(0, 0, 10 + i);
            is("acts", x.about(7), i);
        }
        x.time(0, 0, 61);
        x.cards(1, 0, 0);
        x.rule(3);
        is("refused ones aren't kept", x.about(7), 10);
        x.time(0, 0, 21);
        is("an eleventh", x.about(7), 10);
        for (int i = 9; i >= 0; i--) {
            granted(x, "undo()", x.undo(), i);
            is("as it was", x.timeOf(0, 0), 11 + i);
        }
        refused(x, "the first can't be", x.undo(), 5);
        is("its time stays", x.timeOf(0, 0), 11);
        for (int i = 0; i < 25; i++) {
            x.time(0, 0, 30 + i);
        }
        is("ten again", x.about(7), 10);
        x.undo();
        x.undo();
        x.time(0, 0, 1);
        is("undone ones make room", x.about(7), 9);
        is("the latest first", x.undo() + 100 * x.timeOf(0, 0), 8 + 100 * 52);
        x.cards(0, 0, 1);
        is("an act that changes nothing is one", x.about(7), 9);
        ofAllSorts();
    }

    /** Fifteen acts, no two alike that follow each other. */
    private static void ofAllSorts() {
        PullCards x = Tell.of(Refusals.TEXT);
        String[] ahead = new String[15];
        for (int i = 0; i < 15; i++) {
            ahead[i] = noActs(Seen.of(x));
            if (i % 3 == 0) {
                x.cards(i % 2, i / 2 % 2, 9 - i % 5);
            } else if (i % 3 == 1) {
                x.time(i / 2 % 2, i % 2, 60 - i);
            } else {
                x.rule(i / 3 % 3);
            }
        }
        for (int i = 9; i >= 0; i--) {
            is("undo()", x.undo(), i);
            is("all as ahead of act " + (i + 5), noActs(Seen.of(x)), ahead[i + 5]);
        }
        refused(x, "undo()", x.undo(), 5);
        is("five stay done", noActs(Seen.of(x)), ahead[5]);
    }

    private static void toldAsItWas() {
        sentence("what they changed is told as it was");
        PullCards x = Tell.of(Refusals.TEXT);
        String[] ahead = new String[9];
        for (int i = 0; i < 8; i++) {
            ahead[i] = Seen.of(x);
            int b = i / 2 % 2;
            int k = i % 2;
            if (i == 3) {
                x.rule(i % 3 + 1);
            } else if (i % 2 == 0) {
                x.cards(b, k, i);
            } else {
                x.time(b, k, 60 - i);
            }
        }
        for (int i = 7; i >= 0; i--) {
            is("undo()", x.undo(), i);
            is("all as ahead of act " + i, Seen.of(x), ahead[i]);
        }
        x = Tell.of(ONE);
        x.cards(0, 0, 4);
        x.cards(0, 0, 7);
        x.undo();
        is("of two of one card the first holds", x.cardsOf(0, 0, 0), 4);
        x.undo();
        is("then none", x.cardsOf(0, 0, 0), 1);
    }

    private static void runGoesOn() {
        sentence("(THE RUN goes on as it is; a TEXT leaves none)");
        PullCards x = Tell.of(TWO);
        x.cards(0, 0, 9);
        x.run(20);
        int lie = x.cardsOf(0, 0, 1);
        is("several lie", lie > 1, true);
        x.undo();
        is("minute", x.about(4), 20);
        is("those that lie, lie on", x.cardsOf(0, 0, 1), lie);
        is("none is free", x.cardsOf(0, 0, 3), 0);
        x = Tell.of("ware a;bench p 5");
        x.time(0, 0, 60);
        x.run(1);
        x.undo();
        is("at work as it was begun", x.does(0, 2), 59);
        x.begin(false);
        x.cards(0, 0, 3);
        x.begin(true);
        is("a beginning leaves acts", x.about(7), 1);
        is("undo()", x.undo(), 0);
        is("three lie", x.cardsOf(0, 0, 1), 3);
    }

    private static void textLeavesNoAct() {
        sentence("a TEXT leaves none");
        PullCards x = Tell.of(ONE);
        x.cards(0, 0, 5);
        x.rule(2);
        x.text(1);
        is("refused by 2 it leaves them", x.about(7), 2);
        Tell.text(x, "ware a");
        is("refused by 4 it leaves them", x.about(7), 2);
        is("and what they changed", 10 * x.cardsOf(0, 0, 0) + x.about(3), 52);
        Tell.text(x, ONE);
        is("none", x.about(7), 0);
        is("told anew", 10 * x.cardsOf(0, 0, 0) + x.about(3), 10);
        refused(x, "undo()", x.undo(), 5);
    }

    // ---- images

    private static void imagesKeep() {
        sentence("IMAGES 0, 1 keep THE RUN, CARDS, TIMES, THE RULE as they are");
        PullCards x = Tell.of(Refusals.TEXT);
        String first = Seen.of(x);
        is("at the beginning", x.keep(0), true);
        x.begin(true);
        minutes(x, 777);
        x.cards(0, 0, 9);
        x.time(1, 1, 60);
        x.rule(1);
        String second = noActs(Seen.of(x));
        is("keep(1)", x.keep(1), true);
        is("keeping changes nothing", noActs(Seen.of(x)), second);
        is("nor acts", x.about(7), 3);
        x.begin(false);
        x.cards(1, 1, 0);
        x.rule(0);
        x.back(0);
        is("image 0", Seen.of(x), first);
        x.run(9);
        x.back(1);
        is("image 1", noActs(Seen.of(x)), second);
        x.back(1);
        is("image 1 again", noActs(Seen.of(x)), second);
        x.back(0);
        is("image 0 again", Seen.of(x), first);
        x.run(5);
        x.cards(0, 0, 7);
        is("what comes behind isn't kept", x.back(0), true);
        is("image 0 once more", Seen.of(x), first);
        x.run(5);
        String third = Seen.of(x);
        x.keep(0);
        x.run(5);
        x.back(0);
        is("kept anew", Seen.of(x), third);
        x.back(1);
        is("the other one stays", noActs(Seen.of(x)), second);
        x = Tell.of("ware a;bench p 9;bench q 2;bench r 1" + FLOW);
        x.begin(true);
        x.run(2);
        is("r starved first, at 1", 10 * x.starved(0) + x.starved(1), 12);
        x.keep(0);
        x.begin(false);
        x.run(20);
        is("q starved first, at 11", 10 * x.starved(0) + x.starved(1), 111);
        x.back(0);
        is("who starved first, too", 10 * x.starved(0) + x.starved(1), 12);
    }

    /** Acts that can be undone aren't part of an image. */
    private static String noActs(String seen) {
        return seen.replaceFirst("about(( \\d+){7}) \\d+", "about$1 0");
    }

    private static void backAsThen() {
        sentence("BACK TO one they are as then");
        PullCards x = Tell.of(Refusals.TEXT);
        x.run(123);
        x.keep(0);
        PullCards y = Tell.of(Refusals.TEXT);
        y.run(123);
        x.run(400);
        x.time(0, 0, 30);
        x.back(0);
        for (int i = 0; i < 30; i++) {
            is("it goes on as it would have", Seen.of(x), Seen.of(y));
            x.run(1);
            y.run(1);
        }
        is("on paper, too", x.yields(500), y.yields(500));
    }

    private static void backLeavesNoAct() {
        sentence("BACK TO one they are as then, no ACT can be undone (a TEXT leaves none)");
        PullCards x = Tell.of(ONE);
        x.cards(0, 0, 2);
        x.keep(0);
        x.cards(0, 0, 3);
        is("acts", x.about(7), 2);
        is("refused", x.back(1), false);
        is("it leaves them", x.about(7), 2);
        x.back(0);
        is("none", x.about(7), 0);
        refused(x, "undo()", x.undo(), 5);
        is("cards as then", x.cardsOf(0, 0, 0), 2);
        x.cards(0, 0, 9);
        is("acts behind it can be", x.undo(), 0);
        is("cards as then", x.cardsOf(0, 0, 0), 2);
    }

    private static void textLeavesNoImage() {
        sentence("they are as then, no ACT can be undone (a TEXT leaves none)");
        PullCards x = Tell.of(ONE);
        x.keep(0);
        x.keep(1);
        x.text(1);
        is("refused by 2 it leaves them", x.back(0), true);
        Tell.text(x, "ware a");
        is("refused by 4 it leaves them", x.back(1), true);
        Tell.text(x, ONE);
        refused(x, "back(0)", x.back(0), 1);
        refused(x, "back(1)", x.back(1), 1);
        x.keep(1);
        refused(x, "back(0), only 1 is kept", x.back(0), 1);
        is("back(1)", x.back(1), true);
    }

    // ---- trouble

    private static void troubleOfLatest() {
        sentence("TROUBLE of the latest call that may be refused (those of which a number is told here): 0 it wasn't");
        PullCards x = Tell.of(Refusals.TEXT);
        x.run(3);
        x.keep(0);
        x.keep(1);
        for (Refusals.Refusal r : Refusals.granted()) {
            if (r.name().startsWith("undo")) {
                x.rule(1);
            }
            x.run(0);
            is("refused", x.trouble(), 2);
            r.call().on(x);
            is("behind " + r.name(), x.trouble(), 0);
        }
        x.run(0);
        x.feed(0, 0, 0, 0, 0);
        x.fault();
        x.where();
        x.bytes();
        x.letter(true, 0, 0);
        throwsNone(x, true, 9, 9);
        is("calls of which no number is told", x.trouble(), 2);
        is("read twice", x.trouble(), 2);
        x.text(0);
        Tell.text(x, ONE);
        is("behind a text", x.trouble(), 0);
    }

    private static void troubleNumbers() {
        sentence("1 there is none such (no TEXT, BENCH, KIND, stream, IMAGE, what); 2 a number; 4 a FAULT; "
            + "5 not so; 6 there is none.");
        PullCards x = new PullCards();
        refused(x, "no text", x.about(0), 1);
        Tell.text(x, TWO);
        refused(x, "no bench", x.peak(2), 1);
        refused(x, "no kind", x.firstOf(1), 1);
        refused(x, "no stream", x.stream(1, 0), 1);
        refused(x, "no image", x.keep(2), 1);
        refused(x, "no image kept", x.back(0), 1);
        refused(x, "no what", x.about(8), 1);
        refused(x, "a number", x.rule(3), 2);
        refused(x, "not so: rate", x.rate(0), 5);
        refused(x, "not so: undo", x.undo(), 5);
        refused(x, "there is none", x.starved(0), 6);
        x.text(0);
        is("a fault", x.trouble(), 4);
    }

    private static void toldFirst() {
        sentence("Of several the one that the call tells first.");
        PullCards x = new PullCards();
        refused(x, "run(0): no text first", x.run(0), 1);
        refused(x, "rate(0): no text first", x.rate(0), 1);
        refused(x, "starved(0): no text first", x.starved(0), 1);
        refused(x, "undo(): no text first", x.undo(), 1);
        refused(x, "fewest(-1, 0): no text first", x.fewest(-1, 0), 1);
        Tell.text(x, Refusals.TEXT);
        refused(x, "rate(2) at the beginning", x.rate(2), 1);
        refused(x, "starved(2), none was", x.starved(2), 1);
        refused(x, "would(2, 0, 10, 0)", x.would(2, 0, 10, 0), 1);
        refused(x, "would(0, 2, 10, 0)", x.would(0, 2, 10, 0), 1);
        refused(x, "thinAt(0, 2, 0)", x.thinAt(0, 2, 0), 1);
        refused(x, "comesAgain(0, 2)", x.comesAgain(0, 2), 1);
        refused(x, "cards(2, 0, 10)", x.cards(2, 0, 10), 1);
        refused(x, "time(0, 2, 0)", x.time(0, 2, 0), 1);
        minutes(x, 9999);
        refused(x, "run(501)", x.run(501), 2);
        refused(x, "run(1)", x.run(1), 5);
        Tell.feed(x, "!");
        refused(x, "text(21): 2 is told ahead of 4", x.text(21), 2);
    }

    /** Two objects alike; one is asked what is refused, and must stay as the other. */
    private static void refusedChangesNothing() {
        sentence("What is refused changes nothing but trouble(), where()");
        PullCards x = busy();
        PullCards y = busy();
        String ahead = Seen.of(y);
        for (Refusals.Refusal r : Refusals.withText()) {
            refused(x, r.name(), r.call().on(x), r.trouble());
            is("behind " + r.name(), Seen.of(x), ahead);
        }
        is("bytes", x.bytes(), y.bytes());
        for (int i = 0; i < 10; i++) {
            is("undo()", x.undo(), y.undo());
            is("undone alike", Seen.of(x), Seen.of(y));
        }
        refused(x, "undo()", x.undo(), 5);
        is("behind undo()", Seen.of(x), Seen.of(y));
        for (int i = 0; i < 2; i++) {
            is("back(" + i + ")", x.back(i), y.back(i));
            is("back alike", Seen.of(x), Seen.of(y));
        }
        minutes(x, 9999 - x.about(4));
        ahead = Seen.of(x);
        refused(x, "run(1)", x.run(1), 5);
        is("behind run(1)", Seen.of(x), ahead);
    }

    /** Ten acts, both images, a tape begun, a fault told. */
    private static PullCards busy() {
        PullCards x = Tell.of(Refusals.TEXT);
        x.run(7);
        x.keep(0);
        x.begin(true);
        for (int i = 0; i < 12; i++) {
            x.cards(i % 2, i / 2 % 2, i % 10);
            x.time(i / 2 % 2, i % 2, 1 + i);
            x.rule(i % 3);
            x.run(5);
        }
        x.keep(1);
        x.run(11);
        Tell.text(x, "ware a;bench p 0");
        Tell.feed(x, ONE);
        return x;
    }

    private static void refusedByFault() {
        sentence("by 4 THE TAPE (empty then), fault()");
        String[] texts = {"", "ware a;bench p 0", "ware a;ware a", ONE + ";ware b", "ware a"};
        for (int i = 0; i < texts.length; i++) {
            PullCards x = busy();
            x.text(0);
            String ahead = Seen.of(x);
            Tell.text(x, texts[i]);
            is("trouble()", x.trouble(), 4);
            is("fault()", x.fault(), i + 1);
            is("bytes()", x.bytes(), 0);
            is("nothing else", Seen.of(x), ahead.replaceFirst("fault 1", "fault " + (i + 1)));
            is("acts stay", x.undo(), 9);
            is("images stay", x.back(0) && x.back(1), true);
        }
    }

    private static void noneIsMinusOne() {
        sentence("`NONE = -1`: There is none; refused.");
        is("NONE", PullCards.NONE, -1);
        is("refused", new PullCards().about(0), PullCards.NONE);
    }

    // ---- promises 29 to 34

    private static void cardsAct() {
        sentence("ACT: a BENCH has n CARDS (0 .. 9) of a KIND: what it had. NONE: 1; 2.");
        edgesOf("cards");
        PullCards x = Tell.of(Refusals.TEXT);
        granted(x, "cards(1, 1, 0)", x.cards(1, 1, 0), 1);
        granted(x, "cards(1, 1, 9)", x.cards(1, 1, 9), 0);
        granted(x, "cards(1, 1, 9) again", x.cards(1, 1, 9), 9);
        is("acts", x.about(7), 3);
        is("it alone", x.cardsOf(1, 1, 0), 9);
        is("all", x.about(5), 13);
    }

    private static void timeAct() {
        sentence("ACT: TIME (1 .. 60) of a BENCH and KIND: what it was. NONE: 1; 2.");
        edgesOf("time");
        PullCards x = Tell.of(Refusals.TEXT);
        granted(x, "time(1, 1, 60)", x.time(1, 1, 60), 1);
        granted(x, "time(1, 1, 1)", x.time(1, 1, 1), 60);
        granted(x, "time(1, 1, 1) again", x.time(1, 1, 1), 1);
        is("acts", x.about(7), 3);
        granted(x, "time(0, 0, 60)", x.time(0, 0, 60), 2);
        is("it alone", x.bench(0, 3), 63);
    }

    private static void ruleAct() {
        sentence("ACT: THE RULE (0, 1, 2): what it was. NONE: 1 (no TEXT); 2.");
        edgesOf("rule");
        PullCards x = Tell.of(Refusals.TEXT);
        granted(x, "rule(0)", x.rule(0), 2);
        granted(x, "rule(1)", x.rule(1), 0);
        granted(x, "rule(2)", x.rule(2), 1);
        granted(x, "rule(2) again", x.rule(2), 2);
        is("acts", x.about(7), 4);
    }

    private static void undoTells() {
        sentence("The latest ACT is undone: how many still can be. NONE: 1 (no TEXT); 5.");
        edgesOf("undo");
        PullCards x = Tell.of(ONE);
        refused(x, "there is no act", x.undo(), 5);
        x.rule(1);
        granted(x, "one", x.undo(), 0);
        is("about(3)", x.about(3), 0);
        refused(x, "no more", x.undo(), 5);
        is("about(3)", x.about(3), 0);
        for (int i = 0; i < 11; i++) {
            x.rule(2);
        }
        granted(x, "of ten", x.undo(), 9);
    }

    private static void keepTells() {
        sentence("IMAGE i (0, 1) is kept: true; false: 1 (no TEXT, too).");
        edgesOf("keep");
        PullCards x = Tell.of(ONE);
        is("keep(0)", x.keep(0), true);
        is("keep(1)", x.keep(1), true);
        refused(x, "keep(2)", x.keep(2), 1);
        refused(x, "keep(-1)", x.keep(-1), 1);
        is("keep(0), kept already", x.keep(0), true);
        is("trouble", x.trouble(), 0);
    }

    private static void backTells() {
        sentence("BACK TO it: true; false: 1 (it wasn't kept, too).");
        edgesOf("back");
        PullCards x = Tell.of(ONE);
        refused(x, "back(0)", x.back(0), 1);
        refused(x, "back(1)", x.back(1), 1);
        x.keep(1);
        refused(x, "back(0), 1 is kept", x.back(0), 1);
        is("back(1)", x.back(1), true);
        is("trouble", x.trouble(), 0);
        x.keep(0);
        is("back(0)", x.back(0), true);
        refused(x, "back(2)", x.back(2), 1);
    }

    // ---- promises 35 to 37

    private static void letterTells() {
        sentence("Letter i (0 a, ..) of the NAME of a BENCH (kind false), KIND (true).");
        PullCards x = Tell.of("ware a;ware zyxwvu;ware z;bench m 1,1,1;bench n 1,1,1;bench o 1,1,1;bench p 1,1,1;"
            + "bench q 1,1,1;bench rstuvw 1,1,1");
        is("a", x.letter(true, 0, 0), 0);
        is("z", x.letter(true, 2, 0), 25);
        for (int i = 0; i < 6; i++) {
            is("of a kind", x.letter(true, 1, i), 25 - i);
            is("of the last bench", x.letter(false, 5, i), 17 + i);
        }
        is("of the first bench", x.letter(false, 0, 0), 12);
    }

    private static void letterThrows() {
        sentence("NoSuchElementException if there is none such.");
        PullCards x = new PullCards();
        is("no text", throwsNone(x, true, 0, 0) && throwsNone(x, false, 0, 0), true);
        Tell.text(x, "ware a;ware zyxwvu;bench m 1,1;bench rstuvw 1,1;bench o 1,1");
        x.run(0);
        for (int n : FAR) {
            is("kind " + n, throwsNone(x, true, n, 0), true);
            is("bench " + n, throwsNone(x, false, n, 0), true);
            is("letter " + n + " of a kind", throwsNone(x, true, 1, n), true);
            is("letter " + n + " of a bench", throwsNone(x, false, 1, n), true);
            is("both " + n, throwsNone(x, false, n, n), true);
        }
        is("kind 2", throwsNone(x, true, 2, 0), true);
        is("bench 3", throwsNone(x, false, 3, 0), true);
        is("bench 2", throwsNone(x, false, 2, 0), false);
        is("letter 1 of one", throwsNone(x, true, 0, 1), true);
        is("letter 6 of six", throwsNone(x, true, 1, 6), true);
        is("letter 5 of six", throwsNone(x, true, 1, 5), false);
        is("letter 1 of one, bench", throwsNone(x, false, 0, 1), true);
        is("letter 6 of six, bench", throwsNone(x, false, 1, 6), true);
        is("trouble() stays", x.trouble(), 2);
        Tell.text(x, "ware q;bench w 1");
        is("a kind of the text ahead", throwsNone(x, true, 1, 0), true);
        is("a bench of the text ahead", throwsNone(x, false, 1, 0), true);
        Tell.text(x, "ware abc");
        is("a faulty text leaves names", x.letter(true, 0, 0), 16);
        is("and their lengths", throwsNone(x, true, 0, 1), true);
    }

    private static void bytesTell() {
        sentence("Bytes of THE TAPE.");
        PullCards x = new PullCards();
        is("empty", x.bytes(), 0);
        for (int i = 1; i <= 30; i++) {
            x.feed(0, 0, 0, 0, 0);
            is("fed", x.bytes(), 20 * i);
        }
        x.feed(0, 0, 0, 0, 0);
        is("full", x.bytes(), 600);
        x.text(-1);
        x.text(601);
        is("a text refused by 2 leaves it", x.bytes(), 600);
        x.text(0);
        is("a text of no byte empties it", x.bytes(), 0);
        Tell.feed(x, ONE);
        is("fed again", x.bytes(), 20);
        x.text(16);
        is("read", x.bytes(), 0);
    }

    private static void troubleTells() {
        sentence("`int trouble()`: TROUBLE.");
        PullCards x = new PullCards();
        is("ahead of any call", x.trouble(), 0);
        x.feed(0, 0, 0, 0, 0);
        is("behind feed", x.trouble(), 0);
        x.text(21);
        is("2", x.trouble(), 2);
        x.text(20);
        is("4", x.trouble(), 4);
        x.busiest();
        is("1", x.trouble(), 1);
        Tell.text(x, ONE);
        is("0", x.trouble(), 0);
    }

    private static void as512Calls() {
        sentence("An object is used for at most 512 calls after it has been made");
        PullCards x = Tell.of(TWO);
        int calls = 4;
        while (calls < 511) {
            x.cards(0, 0, calls % 10);
            calls++;
        }
        is("the 512th", x.about(7), 10);
    }
}
