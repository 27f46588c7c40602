/** Boundary cases of 'I. THE TEXT' and of promises 1 to 5, sentence by sentence. */
public final class TextBoundaryTest extends Sentences {
    private static final String ONE = "ware a;bench p 1";
    private static final String PAIR = "ware a;ware b;";
    private static final String THREE = "ware a;ware b;ware c;";
    private static final String[] RESERVED = {"ware", "bench", "setup", "rest", "every", "cards", "order",
        "from", "rule", "first", "most", "turn"};

    public static void main(String[] args) {
        tapeOf600();
        blanks();
        words();
        wholes();
        singles();
        linesAndSemicolons();
        kinds();
        benches();
        times();
        setups();
        rests();
        cardsTold();
        streams();
        ruleTold();
        namesThatAreNone();
        namesOnce();
        firstFromTheLeft();
        leastNumber();
        bytesWithoutToken();
        tooManyTogether();
        noTextGoesOn();
        outOfBounds();
        namesToldAgain();
        namesThatMustBe();
        secondRule();
        oneTooMany();
        wareBehindBench();
        lacks();
        newObject();
        twentyBytes();
        feedTooMuch();
        firstBytes();
        textTells();
        textRefused();
        faultToldLast();
        placeTold();
        System.exit(finish());
    }

    private static String blanksOf(int n) {
        return " ".repeat(n);
    }

    // ---- I. the text

    private static void tapeOf600() {
        sentence("THE TAPE has 600 bytes");
        PullCards x = new PullCards();
        for (int i = 1; i <= 30; i++) {
            is("feed " + i, x.feed(0x20202020, 0x20202020, 0x20202020, 0x20202020, 0x20202020), 20 * i);
        }
        is("bytes()", x.bytes(), 600);
        is("feed 31", x.feed(0, 0, 0, 0, 0), -1);
        String whole = ONE + blanksOf(572) + ";cards p a 7";
        x = right(whole, 1);
        is("its last byte is read", x.cardsOf(0, 0, 0), 7);
        Tell.feed(x, whole);
        is("text(599)", x.text(599), -1);
        is("its end", x.where(), 599);
        faulty(ONE + blanksOf(583) + ";", 1, 600);
        faulty(",".repeat(600), 1, 0);
        faulty("a".repeat(600), 1, 0);
        faulty("1".repeat(600), 1, 0);
        faulty("a1".repeat(300), 1, 0);
        faulty("1a".repeat(300), 1, 0);
        faulty(";".repeat(599) + "a", 1, 0);
        faulty(blanksOf(600), 1, 600);
    }

    private static void blanks() {
        sentence("blanks, 32, part TOKENS and mean nothing else");
        right(" " + ONE, 1);
        right(ONE + " ", 1);
        right("   ware   a   ;   bench   p   1   ", 1);
        right(PAIR + "bench p 1 , 2 ", 1);
        PullCards x = right("ware a;bench p1setup2rest3every4;cards p a5;order a every6from7", 1);
        is("setup, without a blank", x.bench(0, 0), 2);
        is("rest", x.bench(0, 1), 3);
        is("every", x.bench(0, 2), 4);
        is("cards", x.cardsOf(0, 0, 0), 5);
        is("from", x.stream(0, 2), 7);
        faulty("wa re a;bench p 1", 1, 0);
        faulty("warea;bench p 1", 1, 0);
        faulty("ware a b;bench p 1", 1, 7);
        faulty("ware a;bench p 1 0", 1, 17);
        for (char c : new char[] {0, 9, 10, 11, 12, 13, 31, 33, 127, 160}) {
            faulty("ware" + c + "a;bench p 1", 1, 4);
        }
    }

    private static void words() {
        sentence("WORDS of 1 to 6 small letters that stand together");
        PullCards x = right("ware abcdef;ware ghijkl;ware mnopqr;bench stuvwx 1,1,1;bench y 1,1,1;bench z 1,1,1", 3);
        for (int i = 0; i < 18; i++) {
            is("letter of a kind", x.letter(true, i / 6, i % 6), i);
        }
        for (int i = 0; i < 6; i++) {
            is("letter of a bench", x.letter(false, 0, i), 18 + i);
        }
        is("y", x.letter(false, 1, 0), 24);
        is("z", x.letter(false, 2, 0), 25);
        right("ware abcdef;bench abcdeg 1", 1);
        right("ware abcde;bench abcdef 1", 1);
        faulty("ware abcdefg;bench p 1", 1, 5);
        faulty("ware a;bench abcdefg 1", 1, 13);
        for (char c : new char[] {'`', '{', '@', 'A', 'Z', '[', 'a' + 128, 'z' + 128}) {
            faulty("ware " + c + ";bench p 1", 1, 5);
            faulty("ware a" + c + ";bench p 1", 1, 6);
        }
    }

    private static void wholes() {
        sentence("WHOLES of 1 to 4 digits that do");
        for (String seven : new String[] {"7", "07", "007", "0007"}) {
            is(seven, right("ware a;bench p " + seven, 1).timeOf(0, 0), 7);
        }
        faulty("ware a;bench p 00007", 1, 15);
        faulty("ware a;bench p 000007", 1, 15);
        faulty("ware a;bench p 9999", 2, 15);
        faulty("ware a;bench p 10000", 1, 15);
        is("0999", right(ONE + ";order a every 0099 from 0999", 1).stream(0, 2), 999);
        is("9 and 0", right("ware a;bench p 19;bench q 30", 2).timeOf(0, 0), 19);
        for (char c : new char[] {'/', ':', '-', '+', '.', '0' + 128, '9' + 128}) {
            faulty("ware a;bench p " + c, 1, 15);
            faulty("ware a;bench p 1" + c, 1, 16);
        }
    }

    private static void singles() {
        sentence("single ones of ; ,");
        faulty("ware a;;bench p 1", 1, 7);
        faulty("ware a; ;bench p 1", 1, 8);
        faulty(PAIR + "bench p 1,,1", 1, 24);
        faulty(PAIR + "bench p 1, ,1", 1, 25);
        faulty(PAIR + "bench p 1;1", 1, 23);
        faulty("ware a,bench p 1", 1, 6);
        faulty("ware a:bench p 1", 1, 6);
    }

    private static void linesAndSemicolons() {
        sentence("LINE {; LINE}. LINE, one of:");
        faulty("", 1, 0);
        faulty(" ", 1, 1);
        faulty(";", 1, 0);
        faulty(";" + ONE, 1, 0);
        faulty(" ;" + ONE, 1, 1);
        faulty(ONE + ";", 1, 17);
        faulty(ONE + " ; ", 1, 19);
        faulty("ware a bench p 1", 1, 7);
        faulty(ONE + "rule first", 1, 16);
        faulty(ONE + ";p", 1, 17);
        faulty(ONE + ";1", 1, 17);
        for (String word : new String[] {"setup", "rest", "every", "from", "first", "most", "turn"}) {
            faulty(word, 1, 0);
            faulty(ONE + ";" + word, 1, 17);
        }
    }

    private static void kinds() {
        sentence("a KIND; up to 3, numbered from 0; all ahead of all benches");
        is("one", right(ONE, 1).about(0), 1);
        is("two", right(PAIR + "bench p 1,1", 1).about(0), 2);
        PullCards x = right(THREE + "bench p 4,5,6", 1);
        is("three", x.about(0), 3);
        for (int k = 0; k < 3; k++) {
            is("name of " + k, x.letter(true, k, 0), k);
            is("time of " + k, x.timeOf(0, k), 4 + k);
        }
        faulty(THREE + "ware d;bench p 1,1,1,1", 4, 21);
        right("ware a;order a every 1 from 0;ware b;rule turn;ware c;bench p 1,1,1", 1);
        faulty(ONE + ";ware b", 4, 17);
        faulty(THREE + "bench p 1,1,1;ware d", 4, 35);
    }

    private static void benches() {
        sentence("a BENCH; up to 6, numbered from 0, the first one first");
        StringBuilder six = new StringBuilder("ware a");
        for (int b = 0; b < 6; b++) {
            six.append(";bench ").append((char) ('p' + b)).append(' ').append(1 + b);
            PullCards x = right(six.toString(), b + 1);
            is("benches", x.about(1), b + 1);
            for (int i = 0; i <= b; i++) {
                is("name of " + i, x.letter(false, i, 0), 15 + i);
                is("time of " + i, x.timeOf(i, 0), 1 + i);
            }
            refused(x, "no bench " + (b + 1), x.timeOf(b + 1, 0), 1);
        }
        faulty(six + ";bench v 1", 4, 67);
        right(six + ";cards u a 2;order a every 1 from 0", 6);
    }

    private static void times() {
        sentence("TIMES of KINDS 0, 1, .. 1 .. 60, one for each that was told (without any: 1 FORM behind the NAME)");
        is("the least", right("ware a;bench p 1", 1).timeOf(0, 0), 1);
        is("the most", right("ware a;bench p 60", 1).timeOf(0, 0), 60);
        faulty("ware a;bench p 0", 2, 15);
        faulty("ware a;bench p 61", 2, 15);
        faulty(PAIR + "bench p 60,0", 2, 25);
        faulty(PAIR + "bench p 60,61", 2, 25);
        faulty(THREE + "bench p 1,1,0", 2, 33);
        faulty(THREE + "bench p 1,1,61", 2, 33);
        is("together", right(THREE + "bench p 60,60,60", 1).bench(0, 3), 180);
        faulty("ware a;bench p", 1, 14);
        faulty("ware a;bench p;rule turn", 1, 14);
        faulty("ware a;bench p setup 1", 1, 15);
        faulty("ware a;bench p 1,1", 1, 16);
        faulty(PAIR + "bench p 1", 1, 23);
        faulty(PAIR + "bench p 1;rule turn", 1, 23);
        faulty(PAIR + "bench p 1 setup 1", 1, 24);
        faulty(PAIR + "bench p 1 1", 1, 24);
        faulty(PAIR + "bench p 1,", 1, 24);
        faulty(PAIR + "bench p ,1", 1, 22);
        faulty(PAIR + "bench p 1,1,1", 1, 25);
        faulty(THREE + "bench p 1,1", 1, 32);
        faulty(THREE + "bench p 1,1,1,1", 1, 34);
        faulty("bench p", 1, 7);
        faulty("bench p ", 1, 8);
        faulty("bench p 1", 1, 8);
        faulty("bench p 0", 1, 8);
        faulty("bench p setup 1", 1, 8);
        faulty("bench p;ware a", 1, 7);
        faulty("rule turn;bench p 1;ware a", 1, 18);
    }

    private static void setups() {
        sentence("SETUP 0 .. 60, 0 without");
        is("without", right(ONE, 1).bench(0, 0), 0);
        is("the least", right(ONE + " setup 0", 1).bench(0, 0), 0);
        is("the most", right(ONE + " setup 60", 1).bench(0, 0), 60);
        faulty(ONE + " setup 61", 2, 23);
        faulty(ONE + " setup 9999", 2, 23);
        faulty(ONE + " setup", 1, 22);
        faulty(ONE + " setup 1 setup 1", 1, 25);
        faulty(ONE + " setup rest 1 every 1", 1, 23);
        PullCards x = right(ONE + " setup 5;bench q 1", 2);
        is("of another bench", x.bench(1, 0), 0);
        is("a text told later has its own", Tell.text(x, ONE + ";bench q 1"), 2);
        is("without, behind one with", x.bench(0, 0), 0);
    }

    private static void rests() {
        sentence("REST 1 .. 60 behind each EVERY, 1 .. 99, finished; none without");
        PullCards x = right(ONE, 1);
        is("without, rest", x.bench(0, 1), 0);
        is("without, every", x.bench(0, 2), 0);
        x = right(ONE + " rest 1 every 1", 1);
        is("the least rest", x.bench(0, 1), 1);
        is("the least every", x.bench(0, 2), 1);
        x = right(ONE + " setup 0 rest 60 every 99", 1);
        is("the most rest", x.bench(0, 1), 60);
        is("the most every", x.bench(0, 2), 99);
        faulty(ONE + " rest 0 every 1", 2, 22);
        faulty(ONE + " rest 61 every 1", 2, 22);
        faulty(ONE + " rest 1 every 0", 2, 30);
        faulty(ONE + " rest 1 every 100", 2, 30);
        faulty(ONE + " rest 1", 1, 23);
        faulty(ONE + " rest 1 every", 1, 29);
        faulty(ONE + " every 1", 1, 17);
        faulty(ONE + " rest 1 every 1 setup 1", 1, 32);
        faulty(ONE + " rest 1 every 1 rest 1 every 1", 1, 32);
        is("a text told later has its own", Tell.text(x, ONE), 1);
        is("without, behind one with", x.bench(0, 1) + x.bench(0, 2), 0);
        x.run(500);
        is("without it never rests", x.counts(0, 2), 0);
    }

    private static void cardsTold() {
        sentence("of a BENCH and a KIND 0 .. 9 CARDS; 1 without; told again: the latest");
        String two = PAIR + "bench p 1,1;bench q 1,1;";
        PullCards x = right(two + "cards p b 0;cards q a 9", 2);
        is("without", x.cardsOf(0, 0, 0), 1);
        is("the least", x.cardsOf(0, 1, 0), 0);
        is("the most", x.cardsOf(1, 0, 0), 9);
        is("without", x.cardsOf(1, 1, 0), 1);
        faulty(two + "cards p b 10", 2, 48);
        faulty(two + "cards p b 9999", 2, 48);
        x = right(two + "cards p b 4;cards p b 9;cards p a 2;cards p b 0", 2);
        is("the latest", x.cardsOf(0, 1, 0), 0);
        is("of another kind", x.cardsOf(0, 0, 0), 2);
        x = right(two + "cards p b 0;cards p b 9", 2);
        is("the latest", x.cardsOf(0, 1, 0), 9);
        Tell.text(x, two + "rule first");
        is("a text told later has its own", x.cardsOf(0, 1, 0), 1);
    }

    private static void streams() {
        sentence("ORDERS of a KIND, one at a time, from a minute 0 .. 999 on, each so many minutes 1 .. 99; "
            + "a stream; up to 4, numbered from 0");
        String four = ONE + ";order a every 1 from 0;order a every 99 from 999;order a every 2 from 3;"
            + "order a every 4 from 5";
        PullCards x = right(four, 1);
        int[][] told = {{1, 0}, {99, 999}, {2, 3}, {4, 5}};
        for (int i = 0; i < 4; i++) {
            is("every of " + i, x.stream(i, 1), told[i][0]);
            is("from of " + i, x.stream(i, 2), told[i][1]);
        }
        is("streams", x.about(2), 4);
        refused(x, "no stream 4", x.stream(4, 0), 1);
        faulty(four + ";order a every 1 from 0", 4, four.length() + 1);
        faulty(ONE + ";order a every 0 from 0", 2, 31);
        faulty(ONE + ";order a every 100 from 0", 2, 31);
        faulty(ONE + ";order a every 1 from 1000", 2, 38);
        faulty(ONE + ";order a from 0 every 1", 1, 25);
        is("none", right(ONE, 1).about(2), 0);
    }

    private static void ruleTold() {
        sentence("rule first, rule most, rule turn (0, 1, 2; first without; once)");
        is("first", right(ONE + ";rule first", 1).about(3), 0);
        is("most", right(ONE + ";rule most", 1).about(3), 1);
        PullCards x = right("rule turn;" + ONE, 1);
        is("turn", x.about(3), 2);
        Tell.text(x, ONE);
        is("without, behind one with", x.about(3), 0);
        faulty(ONE + ";rule first;rule first", 3, 28);
        faulty(ONE + ";rule", 1, 21);
        faulty(ONE + ";rule a", 1, 22);
        faulty(ONE + ";rule every", 1, 22);
        faulty(ONE + ";rule 0", 1, 22);
        faulty(ONE + ";rule first most", 1, 28);
    }

    private static void namesThatAreNone() {
        sentence("NAMES are WORDS but ware, bench, setup, rest, every, cards, order, from, rule, first, most, turn");
        for (String word : RESERVED) {
            faulty("ware " + word + ";bench p 1", 1, 5);
            faulty("ware a;bench " + word + " 1", 1, 13);
            faulty(ONE + ";cards " + word + " a 1", 1, 23);
            faulty(ONE + ";cards p " + word + " 1", 1, 25);
            faulty(ONE + ";order " + word + " every 1 from 0", 1, 23);
            String longer = word + "x";
            String shorter = word.substring(0, word.length() - 1);
            String text = "ware " + shorter + ";bench " + longer + " 1;cards " + longer + " " + shorter + " 2";
            is(text, right(text, 1).cardsOf(0, 0, 0), 2);
            for (int i = 0; i < word.length(); i++) {
                String other = word.substring(0, i) + "z" + word.substring(i + 1);
                right("ware " + other + ";bench p 1;cards p " + other + " 2", 1);
                faulty(other + " a", 1, 0);
            }
        }
    }

    private static void namesOnce() {
        sentence("each told once as a KIND or BENCH");
        faulty("ware a;ware a;bench p 1,1", 3, 12);
        faulty(PAIR + "ware a", 3, 19);
        faulty(PAIR + "ware b", 3, 19);
        faulty("ware a;bench a 1", 3, 13);
        faulty(PAIR + "bench b 1,1", 3, 20);
        faulty(ONE + ";bench p 1", 3, 23);
        faulty(ONE + ";bench q 1;bench p 1", 3, 33);
        PullCards x = right(ONE, 1);
        is("told in a text ahead doesn't count", Tell.text(x, "ware p;bench a 1"), 1);
        Tell.text(x, "ware zz;bench yy 0");
        is("nor in a faulty one", Tell.text(x, "ware yy;bench zz 1"), 1);
    }

    // ---- faults

    private static void firstFromTheLeft() {
        sentence("Told is the first TOKEN, from the left, at which one is found");
        faulty("ware a;bench p 61;ware b;!", 2, 15);
        faulty(ONE + ";cards q a 10 !", 3, 23);
        faulty(ONE + ";cards p a 10;rule", 2, 27);
        faulty(THREE + "ware abcdefgh", 4, 21);
        faulty(THREE + "ware", 4, 21);
        faulty("ware a;ware a;;", 3, 12);
        faulty("rule most;rule 12345", 3, 10);
        faulty(ONE + ";ware a", 4, 17);
        faulty("ware a!;bench p 0", 1, 6);
        faulty("! ware abcdefg", 1, 0);
        faulty("ware a;order b every 0 from 1000", 3, 13);
        faulty("ware a;order a every 0 from 1000", 2, 21);
    }

    private static void leastNumber() {
        sentence("of one TOKEN the least number");
        faulty("bench p 0", 1, 8);
        faulty("ware a;bench p 00061", 1, 15);
        faulty("ware a;bench p 1 99", 1, 17);
        faulty("ware a;bench p 1,99", 1, 16);
        faulty(ONE + ";cards abcdefg a 1", 1, 23);
        faulty(ONE + ";cards p abcdefg 1", 1, 25);
        faulty("ware a;order 1000 every", 1, 13);
        faulty("ware a;ware ware", 1, 12);
        faulty("", 1, 0);
        faulty("ware a;", 1, 7);
        faulty("rule", 1, 4);
        faulty("rule turn;", 1, 10);
    }

    private static void bytesWithoutToken() {
        sentence("1 FORM: a byte that begins no TOKEN");
        for (int c = 0; c < 256; c++) {
            boolean begins = c >= 'a' && c <= 'z' || c >= '0' && c <= '9' || c == ';' || c == ',' || c == ' ';
            if (!begins) {
                faulty((char) c + ONE, 1, 0);
                faulty(ONE + (char) c, 1, 16);
                faulty("ware " + (char) c + "a;bench p 1", 1, 5);
                faulty(PAIR + "bench p 1" + (char) c + "1", 1, 23);
                faulty("ware a" + (char) c + "bench p 1", 1, 6);
                faulty("ware a;bench p " + (char) c + " setup 1", 1, 15);
            }
        }
    }

    private static void tooManyTogether() {
        sentence("letters or digits too many that stand together (at the first of these)");
        faulty("abcdefg", 1, 0);
        faulty("ware abcdefg", 1, 5);
        faulty("ware abcdefghijkl", 1, 5);
        faulty("ware abcdefghijklm;bench p 1", 1, 5);
        faulty("ware abcdefg1234", 1, 5);
        faulty("ware a;bench abcdef12345", 1, 19);
        faulty("ware a;bench p 12345", 1, 15);
        faulty("ware a;bench p 123456789", 1, 15);
        faulty("ware a;bench p 4294967297", 1, 15);
        faulty("ware a;bench p 18446744073709551617", 1, 15);
        faulty("ware a;bench p 1setups", 1, 16);
        faulty("ware a;bench p 1 setupss 1", 1, 17);
        faulty("wareaaa a;bench p 1", 1, 0);
        faulty(PAIR + "bench p 1abcdefg1", 1, 23);
        faulty(PAIR + "bench p 1 00001 1", 1, 24);
        faulty("ware a abcdefg bench p 1", 1, 7);
        right("ware abcdef;bench p0001", 1);
    }

    /** Each first part of a text that tells all there is, and each token of it put otherwise. */
    private static void noTextGoesOn() {
        sentence("a TOKEN with which no TEXT goes on (a TIME too few or too many; the end: how many bytes there are)");
        String[] tokens = {"ware", "a", ";", "bench", "p", "1", "setup", "2", "rest", "3", "every", "4", ";",
            "cards", "p", "a", "5", ";", "order", "a", "every", "6", "from", "7", ";", "rule", "most"};
        // the fault of the text that ends ahead of this token
        int[] endsHere = {1, 1, 5, 1, 1, 1, 0, 1, 0, 1, 1, 1, 0, 1, 1, 1, 1, 0, 1, 1, 1, 1, 1, 1, 0, 1, 1};
        // of ; , 7 zz every turn the one that may stand at its place
        String[] mayStand = {"", "zz", ";", "", "zz", "7", ";", "7", ";", "7", "every", "7", ";", "", "", "", "7",
            ";", "", "", "every", "7", "", "7", ";", "", "turn"};
        String[] tried = {";", ",", "7", "zz", "every", "turn"};
        StringBuilder ahead = new StringBuilder();
        for (int i = 0; i < tokens.length; i++) {
            for (String blanks : new String[] {"", " ", "   "}) {
                String text = ahead + blanks;
                if (endsHere[i] == 0) {
                    right(text, 1);
                } else {
                    faulty(text, endsHere[i], text.length());
                }
            }
            boolean name = i == 14 || i == 15 || i == 19;
            for (String other : tried) {
                if (!other.equals(mayStand[i])) {
                    faulty(ahead + other, name && other.equals("zz") ? 3 : 1, ahead.length());
                }
            }
            ahead.append(tokens[i]).append(' ');
        }
        right(ahead.toString(), 1);
    }

    private static void outOfBounds() {
        sentence("2 a WHOLE that isn't within its bounds");
        String[] lines = {"ware a;bench p #", ONE + " setup #", ONE + " rest # every 1", ONE + " rest 1 every #",
            ONE + ";cards p a #", ONE + ";order a every # from 0", ONE + ";order a every 1 from #"};
        int[][] bounds = {{1, 60}, {0, 60}, {1, 60}, {1, 99}, {0, 9}, {1, 99}, {0, 999}};
        for (int i = 0; i < lines.length; i++) {
            int place = lines[i].indexOf('#');
            right(lines[i].replace("#", "" + bounds[i][0]), 1);
            right(lines[i].replace("#", "" + bounds[i][1]), 1);
            faulty(lines[i].replace("#", "" + (bounds[i][1] + 1)), 2, place);
            faulty(lines[i].replace("#", "9999"), 2, place);
            if (bounds[i][0] > 0) {
                faulty(lines[i].replace("#", "0"), 2, place);
                faulty(lines[i].replace("#", "0000"), 2, place);
            }
        }
    }

    private static void namesToldAgain() {
        sentence("3 a NAME told again as a KIND, a BENCH");
        faulty("ware a;ware a", 3, 12);
        faulty("ware abcdef;ware abcdef", 3, 17);
        faulty("ware a;bench a", 3, 13);
        faulty(ONE + ";bench p", 3, 23);
        faulty("ware a;bench p 1;bench q 1;bench r 1;bench s 1;bench t 1;bench t 1", 3, 63);
        right("ware ab;ware abc;ware b;bench abcd 1,1,1;bench bc 1,1,1", 2);
    }

    private static void namesThatMustBe() {
        sentence("a NAME that is no KIND, no BENCH told ahead, where such must be");
        faulty(ONE + ";cards q a 1", 3, 23);
        faulty(ONE + ";cards a a 1", 3, 23);
        faulty(ONE + ";cards p p 1", 3, 25);
        faulty(ONE + ";cards p b 1", 3, 25);
        faulty(ONE + ";cards pp a 1", 3, 23);
        faulty("ware a;cards p a 1;bench p 1", 3, 13);
        faulty("cards p a 1", 3, 6);
        faulty("order a every 1 from 0;ware a", 3, 6);
        faulty("ware a;order b every 1 from 0;ware b", 3, 13);
        faulty(ONE + ";order p every 1 from 0", 3, 23);
        PullCards x = right("ware old;bench past 1", 1);
        Tell.text(x, ONE + ";order old every 1 from 0");
        is("told in a text ahead doesn't count", 100 * x.fault() + x.where(), 323);
    }

    private static void secondRule() {
        sentence("a second rule, at that WORD");
        faulty("rule turn;rule turn", 3, 10);
        faulty("rule turn;rule", 3, 10);
        faulty("rule turn;" + ONE + ";rule most;" + ONE, 3, 27);
        PullCards x = right("rule turn;" + ONE, 1);
        is("in another text it is the first", Tell.text(x, "rule most;" + ONE), 1);
        Tell.text(x, "rule most;ware");
        is("behind a faulty text, too", Tell.text(x, "rule turn;" + ONE), 1);
    }

    private static void oneTooMany() {
        sentence("4 one too many (a KIND, BENCH, stream), at the LINE's first WORD");
        faulty(THREE + " ware d", 4, 22);
        faulty(THREE + "ware", 4, 21);
        faulty(THREE + "ware a", 4, 21);
        String six = "ware a;bench p 1;bench q 1;bench r 1;bench s 1;bench t 1;bench u 1";
        faulty(six + ";bench", 4, 67);
        faulty(six + ";bench p 1", 4, 67);
        faulty(six + ";bench v 0", 4, 67);
        String four = "ware a" + ";order a every 1 from 0".repeat(4);
        faulty(four + ";order", 4, four.length() + 1);
        faulty(four + ";order b", 4, four.length() + 1);
        right(four + ";bench p 1", 1);
        right(six + ";order a every 1 from 0".repeat(4), 6);
    }

    private static void wareBehindBench() {
        sentence("ware behind a bench, at that WORD");
        faulty(ONE + ";ware", 4, 17);
        faulty(ONE + ";ware b", 4, 17);
        faulty(ONE + ";ware p", 4, 17);
        faulty(ONE + ";rule first;  ware b", 4, 30);
        faulty(THREE + "bench p 1,1,1;ware d", 4, 35);
    }

    private static void lacks() {
        sentence("5 LACKS, at the end: no KIND, or no BENCH");
        faulty("ware a", 5, 6);
        faulty("ware a  ", 5, 8);
        faulty("rule turn", 5, 9);
        faulty(PAIR + "ware c", 5, 20);
        faulty("ware a;order a every 1 from 0", 5, 29);
        right("ware a;order a every 1 from 0;bench p 1", 1);
    }

    // ---- promises 1 to 5

    private static void newObject() {
        sentence("`PullCards()`: No TEXT.");
        PullCards x = new PullCards();
        is("trouble()", x.trouble(), 0);
        is("where()", x.where(), -1);
        is("fault()", x.fault(), 0);
        is("bytes()", x.bytes(), 0);
        for (Refusals.Refusal r : Refusals.withoutText()) {
            PullCards y = new PullCards();
            refused(y, r.name(), r.call().on(y), 1);
        }
        is("letter", throwsNone(x, true, 0, 0) && throwsNone(x, false, 0, 0), true);
        is("a faulty text is none", Tell.text(x, "ware a"), -1);
        refused(x, "about(0)", x.about(0), 1);
        is("letter", throwsNone(x, true, 0, 0), true);
        is("two objects are two", Tell.text(new PullCards(), ONE), 1);
        refused(x, "about(0)", x.about(0), 1);
    }

    private static void twentyBytes() {
        sentence("Twenty bytes come behind THE TAPE, of each number the highest first: how many it has");
        PullCards x = new PullCards();
        is("feed", x.feed(word("ware"), word(" a;b"), word("ench"), word(" p 1"), word(" set")), 20);
        is("feed", x.feed(word("up 2"), word(";car"), word("ds p"), word(" a 3"), word(";rul")), 40);
        is("feed", x.feed(word("e tu"), word("rn  "), word("    "), word("    "), word("    ")), 60);
        is("text", x.text(46), 1);
        is("setup", x.bench(0, 0), 2);
        is("cards", x.cardsOf(0, 0, 0), 3);
        is("rule", x.about(3), 2);
        for (int at = 0; at < 20; at++) {
            for (int c : new int[] {128, 255, 0, 127}) {
                int[] five = new int[5];
                for (int j = 0; j < 20; j++) {
                    five[j / 4] = five[j / 4] << 8 | (j == at ? c : ' ');
                }
                is("feed", x.feed(five[0], five[1], five[2], five[3], five[4]), 20);
                x.text(20);
                is("byte " + c + " at " + at, x.where(), at);
            }
        }
        x.feed(-1, -1, -1, -1, -1);
        x.text(20);
        is("-1 is four bytes 255", 100 * x.fault() + x.where(), 100);
    }

    private static int word(String four) {
        return four.charAt(0) << 24 | four.charAt(1) << 16 | four.charAt(2) << 8 | four.charAt(3);
    }

    private static void feedTooMuch() {
        sentence("NONE, and none comes, if there would be more than 600 (trouble() stays)");
        PullCards x = Tell.of(ONE);
        Tell.feed(x, ONE + blanksOf(564));
        is("bytes()", x.bytes(), 580);
        x.undo();
        is("the last twenty", x.feed(0x20202020, 0x20202020, 0x20202020, 0x20202020, 0x20202020), 600);
        is("trouble() stays", x.trouble(), 5);
        is("more", x.feed(0, 0, 0, 0, 0), -1);
        is("more, again", x.feed(-1, -1, -1, -1, -1), -1);
        is("none came", x.bytes(), 600);
        is("trouble() stays", x.trouble(), 5);
        is("the tape is as it was", x.text(600), 1);
        is("emptied, it takes more", x.feed(word("ware"), 0, 0, 0, 0), 20);
        is("trouble() stays", x.trouble(), 0);
        x.text(20);
        is("where()", x.where(), 4);
        Tell.feed(x, blanksOf(600));
        is("more", x.feed(0, 0, 0, 0, 0), -1);
        is("where() stays, too", x.where(), 4);
        is("trouble() stays", x.trouble(), 4);
    }

    private static void firstBytes() {
        sentence("The first n bytes of THE TAPE (it is empty then) are THE TEXT");
        PullCards x = new PullCards();
        Tell.feed(x, "ware a;bench p 12;bench q 3!");
        is("text(16): the time is 1", x.text(16), 1);
        is("timeOf", x.timeOf(0, 0), 1);
        is("bytes()", x.bytes(), 0);
        refused(x, "what lay behind is gone", x.text(1), 2);
        Tell.feed(x, "ware a;bench p 12;bench q 3!");
        is("text(17): the time is 12", x.text(17), 1);
        is("timeOf", x.timeOf(0, 0), 12);
        Tell.feed(x, "ware a;bench p 12;bench q 3!");
        is("text(27)", x.text(27), 2);
        Tell.feed(x, "ware a;bench p 12;bench q 3!");
        is("text(28)", x.text(28), -1);
        is("where()", x.where(), 27);
        is("bytes(), empty by a fault, too", x.bytes(), 0);
        Tell.feed(x, ONE);
        is("text(20), all of it", x.text(20), 1);
        Tell.feed(x, ONE);
        is("text(0)", x.text(0), -1);
        is("an empty text", 100 * x.fault() + x.where(), 100);
        is("bytes()", x.bytes(), 0);
    }

    private static void textTells() {
        sentence("THE RUN is at its beginning: how many BENCHES");
        PullCards x = Tell.of("ware a;bench p 3;bench q 2;cards p a 4;order a every 2 from 0");
        x.begin(true);
        x.run(300);
        is("text", Tell.text(x, ONE + ";order a every 1 from 0"), 1);
        is("minute", x.about(4), 0);
        is("held", x.about(6), 0);
        is("idle", x.does(0, 0), 0);
        is("did last", x.does(0, 3), -2);
        is("finished, worked, rested, starved, blocked", x.counts(0, 0) + x.counts(0, 1) + x.counts(0, 2)
            + x.counts(0, 3) + x.counts(0, 4), 0);
        is("orders", x.orders(0, 0) + x.orders(0, 1) + x.orders(0, 2) + x.orders(0, 3), 0);
        is("peak", x.peak(0), 0);
        is("firstOf", x.firstOf(0), -2);
        refused(x, "starved", x.starved(0), 6);
        refused(x, "rate", x.rate(0), 5);
        is("six", Tell.text(x, "ware a;bench p 1;bench q 1;bench r 1;bench s 1;bench t 1;bench u 1"), 6);
    }

    private static void textRefused() {
        sentence("THE RUN is at its beginning: how many BENCHES. NONE: 2 (n); 4.");
        PullCards x = new PullCards();
        for (int n : FAR) {
            refused(x, "text(" + n + "), an empty tape", x.text(n), 2);
        }
        refused(x, "text(1), an empty tape", x.text(1), 2);
        Tell.feed(x, ONE);
        refused(x, "text(21)", x.text(21), 2);
        refused(x, "text(-1)", x.text(-1), 2);
        refused(x, "text(600)", x.text(600), 2);
        refused(x, "text(601)", x.text(601), 2);
        is("the tape stays", x.bytes(), 20);
        is("text(20)", x.text(20), 1);
        Tell.feed(x, blanksOf(600));
        refused(x, "text(601)", x.text(601), 2);
        is("text(600)", x.text(600), -1);
        is("trouble()", x.trouble(), 4);
    }

    private static void faultToldLast() {
        sentence("The FAULT of the latest text() not refused by 2; 0 without one, ahead of any.");
        PullCards x = new PullCards();
        is("ahead of any", x.fault(), 0);
        x.text(1);
        is("refused by 2, ahead of any", x.fault(), 0);
        String[] texts = {"", "ware a;bench p 0", "ware a;ware a", ONE + ";ware b", "ware a"};
        for (int i = 0; i < texts.length; i++) {
            Tell.text(x, texts[i]);
            is("fault()", x.fault(), i + 1);
            x.text(-1);
            is("behind one refused by 2", x.fault(), i + 1);
            x.about(0);
            is("behind another call", x.fault(), i + 1);
        }
        Tell.text(x, ONE);
        is("without one", x.fault(), 0);
        x.text(1);
        is("behind one refused by 2", x.fault(), 0);
    }

    private static void placeTold() {
        sentence("Its place, if the latest call that may be refused was by 4; NONE else.");
        PullCards x = new PullCards();
        is("ahead of any", x.where(), -1);
        is("no call was refused by 4", x.trouble(), 0);
        for (Refusals.Refusal r : Refusals.withoutText()) {
            Tell.text(x, "!");
            is("where()", x.where(), 0);
            r.call().on(x);
            is("behind " + r.name(), x.where(), -1);
        }
        x = Tell.of(Refusals.TEXT);
        for (Refusals.Refusal r : Refusals.withText()) {
            Tell.text(x, "  !");
            is("where()", x.where(), 2);
            r.call().on(x);
            is("behind " + r.name() + " refused", x.where(), -1);
        }
        for (Refusals.Refusal r : Refusals.granted()) {
            Tell.text(x, "ware a");
            is("where()", x.where(), 6);
            r.call().on(x);
            is("behind " + r.name(), x.where(), -1);
        }
        Tell.text(x, "ware a;bench p 0");
        x.feed(0, 0, 0, 0, 0);
        x.fault();
        x.where();
        x.bytes();
        x.trouble();
        throwsNone(x, true, -1, 0);
        x.letter(true, 0, 0);
        is("behind calls that tell no number", x.where(), 15);
        x.text(1000);
        is("behind a text refused by 2", x.where(), -1);
        x.text(0);
        is("behind one refused by 4", x.where(), 0);
        Tell.text(x, ONE);
        is("behind a text without a fault", x.where(), -1);
    }
}
