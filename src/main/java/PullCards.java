import java.util.Arrays;
import java.util.NoSuchElementException;

public final class PullCards {
    public static final int NONE = -1;

    private static final int NOT_ANY = -2;
    private static final int MAX_KINDS = 3;
    private static final int MAX_BENCHES = 6;
    private static final int MAX_STREAMS = 4;
    private static final int MAX_CARDS = 9;
    private static final int MAX_TIME = 60;
    private static final int CELLS = 18;
    private static final int TAPE_BYTES = 600;
    private static final int FED_BYTES = 20;
    private static final int NAME_LETTERS = 6;
    private static final int MAX_RUN = 500;
    private static final int MAX_MINUTES = 9999;
    private static final int MAX_DELIVERED = 9999;
    private static final int MAX_PAPER = 2000;
    private static final int IMAGES = 2;

    private static final int NO_SUCH = 1;
    private static final int BAD_NUMBER = 2;
    private static final int FAULTY = 4;
    private static final int NOT_SO = 5;
    private static final int THERE_IS_NONE = 6;

    private static final int RULE_FIRST = 0;
    private static final int RULE_MOST = 1;
    private static final int RULE_TURN = 2;

    private static final int IDLE = 0;
    private static final int WORKS = 1;
    private static final int RESTS = 2;

    private final byte[] tape;
    private final Plan plan;
    private final Reader reader;
    private final Levers levers;
    private final Line line;
    private final Paper paper;
    private final Acts acts;
    private final Image[] images;
    private int taped;
    private boolean told;
    private int trouble;
    private int fault;
    private int place;

    public PullCards() {
        tape = new byte[TAPE_BYTES];
        plan = new Plan();
        reader = new Reader(tape);
        levers = new Levers();
        line = new Line(plan, levers);
        paper = new Paper(plan, levers);
        acts = new Acts();
        images = new Image[IMAGES];
        for (int i = 0; i < IMAGES; i++) {
            images[i] = new Image(plan);
        }
        place = NONE;
    }

    // ---- texts

    public int feed(int a, int b, int c, int d, int e) {
        if (taped + FED_BYTES > TAPE_BYTES) {
            return NONE;
        }
        putBytes(a);
        putBytes(b);
        putBytes(c);
        putBytes(d);
        putBytes(e);
        return taped;
    }

    private void putBytes(int four) {
        for (int shift = 24; shift >= 0 && taped < TAPE_BYTES; shift -= 8) {
            tape[taped] = (byte) (four >> shift);
            taped++;
        }
    }

    public int text(int n) {
        if (n < 0 || n > taped) {
            return refused(BAD_NUMBER);
        }
        taped = 0;
        fault = reader.read(n);
        if (fault != 0) {
            refused(FAULTY);
            place = reader.placeReached();
            return NONE;
        }
        plan.copy(reader.plan);
        levers.copy(plan.told);
        told = true;
        line.start(false);
        forget();
        return granted(plan.benches);
    }

    private void forget() {
        acts.count = 0;
        for (int i = 0; i < IMAGES; i++) {
            images[i].kept = false;
        }
    }

    public int fault() {
        return fault;
    }

    public int where() {
        return place;
    }

    private int refused(int number) {
        trouble = number;
        place = NONE;
        return NONE;
    }

    private int granted(int answer) {
        trouble = 0;
        place = NONE;
        return answer;
    }

    // ---- what is told

    public int about(int what) {
        if (!told || !within(what, 7)) {
            return refused(NO_SUCH);
        }
        switch (what) {
            case 0: return granted(plan.kinds);
            case 1: return granted(plan.benches);
            case 2: return granted(plan.streams);
            case 3: return granted(levers.rule);
            case 4: return granted(line.minute);
            case 5: return granted(levers.allCards());
            case 6: return granted(line.allHeld());
            default: return granted(acts.count);
        }
    }

    public int bench(int b, int what) {
        if (!isBench(b) || !within(what, 3)) {
            return refused(NO_SUCH);
        }
        switch (what) {
            case 0: return granted(plan.setup[b]);
            case 1: return granted(plan.rest[b]);
            case 2: return granted(plan.every[b]);
            default: return granted(levers.timesAt(b));
        }
    }

    public int timeOf(int b, int k) {
        if (!isBench(b) || !isKind(k)) {
            return refused(NO_SUCH);
        }
        return granted(levers.times[cell(b, k)]);
    }

    public int stream(int i, int what) {
        if (!told || !within(i, plan.streams - 1) || !within(what, 2)) {
            return refused(NO_SUCH);
        }
        switch (what) {
            case 0: return granted(plan.streamKind[i]);
            case 1: return granted(plan.streamEvery[i]);
            default: return granted(plan.streamFrom[i]);
        }
    }

    public int cardsOf(int b, int k, int what) {
        if (!isBench(b) || !isKind(k) || !within(what, 3)) {
            return refused(NO_SUCH);
        }
        int at = cell(b, k);
        switch (what) {
            case 0: return granted(levers.cards[at]);
            case 1: return granted(line.store[at]);
            case 2: return granted(line.held[at] - line.store[at]);
            default: return granted(line.free(at));
        }
    }

    private static boolean within(int number, int most) {
        return number >= 0 && number <= most;
    }

    private static int cell(int b, int k) {
        return MAX_KINDS * b + k;
    }

    // Tells 0 for a divisor that is none, so that no division can ever fail.
    private static int remainder(int number, int divisor) {
        return divisor > 0 ? number % divisor : 0;
    }

    private boolean isBench(int b) {
        return told && within(b, plan.benches - 1);
    }

    private boolean isKind(int k) {
        return told && within(k, plan.kinds - 1);
    }

    // ---- the run

    public boolean begin(boolean full) {
        if (!told) {
            refused(NO_SUCH);
            return false;
        }
        line.start(full);
        granted(0);
        return true;
    }

    public int run(int n) {
        if (!told) {
            return refused(NO_SUCH);
        }
        if (n < 1 || n > MAX_RUN) {
            return refused(BAD_NUMBER);
        }
        if (line.minute + n > MAX_MINUTES) {
            return refused(NOT_SO);
        }
        int ahead = line.delivered;
        for (int i = 0; i < n; i++) {
            line.passMinute();
        }
        return granted(line.delivered - ahead);
    }

    public int does(int b, int what) {
        if (!isBench(b) || !within(what, 3)) {
            return refused(NO_SUCH);
        }
        switch (what) {
            case 0: return granted(line.doing[b]);
            case 1: return granted(line.doing[b] == WORKS ? line.last[b] : NOT_ANY);
            case 2: return granted(line.minutesLeft(b));
            default: return granted(line.last[b]);
        }
    }

    public int counts(int b, int what) {
        if (!isBench(b) || !within(what, 4)) {
            return refused(NO_SUCH);
        }
        return granted(what == 0 ? line.finished[b] : line.minutesOf(b, what - 1));
    }

    public int orders(int k, int what) {
        if (!isKind(k) || !within(what, 3)) {
            return refused(NO_SUCH);
        }
        switch (what) {
            case 0: return granted(line.came[k]);
            case 1: return granted(line.came[k] - line.waiting[k]);
            case 2: return granted(line.waiting[k]);
            default: return granted(line.waited[k]);
        }
    }

    public int starved(int what) {
        if (!told || !within(what, 1)) {
            return refused(NO_SUCH);
        }
        if (line.starvedAt == NOT_ANY) {
            return refused(THERE_IS_NONE);
        }
        return granted(what == 0 ? line.starvedAt : line.starvedBench);
    }

    public int peak(int b) {
        return isBench(b) ? granted(line.peaks[b]) : refused(NO_SUCH);
    }

    public int firstOf(int k) {
        return isKind(k) ? granted(line.firstDelivered[k]) : refused(NO_SUCH);
    }

    public int rate(int what) {
        if (!told || !within(what, 1)) {
            return refused(NO_SUCH);
        }
        if (line.minute == 0) {
            return refused(NOT_SO);
        }
        int common = commonDivisor(line.delivered, line.minute);
        int number = what == 0 ? line.delivered : line.minute;
        return granted(common > 0 ? number / common : number);
    }

    private static int commonDivisor(int a, int b) {
        int x = a;
        int y = b;
        for (int i = 0; i < 64 && y != 0; i++) {
            int rest = remainder(x, y);
            x = y;
            y = rest;
        }
        return x;
    }

    public int busiest() {
        return told ? granted(line.busiestBench()) : refused(NO_SUCH);
    }

    // ---- on paper

    public int yields(int t) {
        return refusesPaper(t) ? NONE : granted(paper.asNow(t));
    }

    public int would(int b, int k, int n, int t) {
        if (!isBench(b) || !isKind(k)) {
            return refused(NO_SUCH);
        }
        if (!within(n, MAX_CARDS)) {
            return refused(BAD_NUMBER);
        }
        return refusesPaper(t) ? NONE : granted(paper.withCards(cell(b, k), n, t));
    }

    public int fewest(int d, int t) {
        if (refusesPaper(t)) {
            return NONE;
        }
        return within(d, MAX_DELIVERED) ? granted(paper.fewestFor(d, t)) : refused(BAD_NUMBER);
    }

    public int thin(int t) {
        if (refusesPaper(t)) {
            return NONE;
        }
        paper.takeOut(t);
        return granted(paper.trial.allCards());
    }

    public int thinAt(int b, int k, int t) {
        if (!isBench(b) || !isKind(k)) {
            return refused(NO_SUCH);
        }
        if (refusesPaper(t)) {
            return NONE;
        }
        paper.takeOut(t);
        return granted(paper.trial.cards[cell(b, k)]);
    }

    public int helps(int t) {
        return refusesPaper(t) ? NONE : granted(paper.bestCardMore(t));
    }

    public int holds(int t) {
        return refusesPaper(t) ? NONE : granted(paper.bestSwiftBench(t));
    }

    public int comesAgain(int t, int what) {
        if (!told || !within(what, 1)) {
            return refused(NO_SUCH);
        }
        if (refusesPaper(t)) {
            return NONE;
        }
        int again = paper.firstAgain(t);
        return granted(what == 0 || again == NOT_ANY ? again : again - paper.againOf);
    }

    private boolean refusesPaper(int t) {
        if (!told) {
            refused(NO_SUCH);
            return true;
        }
        if (t < 1 || t > MAX_PAPER) {
            refused(BAD_NUMBER);
            return true;
        }
        return false;
    }

    // ---- acts

    public int cards(int b, int k, int n) {
        if (!isBench(b) || !isKind(k)) {
            return refused(NO_SUCH);
        }
        if (!within(n, MAX_CARDS)) {
            return refused(BAD_NUMBER);
        }
        return granted(acts.perform(levers, cell(b, k), n));
    }

    public int time(int b, int k, int t) {
        if (!isBench(b) || !isKind(k)) {
            return refused(NO_SUCH);
        }
        if (t < 1 || t > MAX_TIME) {
            return refused(BAD_NUMBER);
        }
        return granted(acts.perform(levers, CELLS + cell(b, k), t));
    }

    public int rule(int r) {
        if (!told) {
            return refused(NO_SUCH);
        }
        if (!within(r, RULE_TURN)) {
            return refused(BAD_NUMBER);
        }
        return granted(acts.perform(levers, CELLS + CELLS, r));
    }

    public int undo() {
        if (!told) {
            return refused(NO_SUCH);
        }
        if (acts.count == 0) {
            return refused(NOT_SO);
        }
        acts.takeBack(levers);
        return granted(acts.count);
    }

    public boolean keep(int i) {
        if (!told || !within(i, IMAGES - 1)) {
            refused(NO_SUCH);
            return false;
        }
        Image image = images[i];
        image.kept = true;
        image.line.copy(line);
        image.levers.copy(levers);
        granted(0);
        return true;
    }

    public boolean back(int i) {
        if (!told || !within(i, IMAGES - 1) || !images[i].kept) {
            refused(NO_SUCH);
            return false;
        }
        Image image = images[i];
        line.copy(image.line);
        levers.copy(image.levers);
        acts.count = 0;
        granted(0);
        return true;
    }

    // ---- names

    public int letter(boolean kind, int n, int i) throws NoSuchElementException {
        if (!(kind ? isKind(n) : isBench(n))) {
            throw new NoSuchElementException();
        }
        int slot = kind ? n : MAX_KINDS + n;
        if (!within(i, plan.nameSizes[slot] - 1)) {
            throw new NoSuchElementException();
        }
        return plan.nameLetters[NAME_LETTERS * slot + i];
    }

    public int bytes() {
        return taped;
    }

    public int trouble() {
        return trouble;
    }

    /** What acts can change: cards and times by cell (3 b + k), and the rule. */
    static final class Levers {
        final int[] cards = new int[CELLS];
        final int[] times = new int[CELLS];
        int rule;

        void clear() {
            Arrays.fill(cards, 0);
            Arrays.fill(times, 0);
            rule = RULE_FIRST;
        }

        void copy(Levers from) {
            System.arraycopy(from.cards, 0, cards, 0, CELLS);
            System.arraycopy(from.times, 0, times, 0, CELLS);
            rule = from.rule;
        }

        // Cells of benches and kinds that were not told hold 0 and so add nothing.
        int allCards() {
            int sum = 0;
            for (int i = 0; i < CELLS; i++) {
                sum += cards[i];
            }
            return sum;
        }

        int timesAt(int b) {
            int sum = 0;
            for (int k = 0; k < MAX_KINDS; k++) {
                sum += times[cell(b, k)];
            }
            return sum;
        }

        // One number names each lever, so that an act is kept as lever and old value.
        int turn(int lever, int value) {
            int old;
            if (lever >= 0 && lever < CELLS) {
                old = cards[lever];
                cards[lever] = value;
            } else if (lever >= CELLS && lever < CELLS + CELLS) {
                old = times[lever - CELLS];
                times[lever - CELLS] = value;
            } else {
                old = rule;
                rule = value;
            }
            return old;
        }
    }

    /** The latest acts that can be undone, the oldest at 0. */
    static final class Acts {
        private static final int MOST = 10;
        private final int[] lever = new int[MOST];
        private final int[] value = new int[MOST];
        int count;

        int perform(Levers levers, int which, int now) {
            if (count >= MOST) {
                System.arraycopy(lever, 1, lever, 0, MOST - 1);
                System.arraycopy(value, 1, value, 0, MOST - 1);
                count = MOST - 1;
            }
            int old = levers.turn(which, now);
            lever[count] = which;
            value[count] = old;
            count++;
            return old;
        }

        void takeBack(Levers levers) {
            if (count > 0) {
                count--;
                levers.turn(lever[count], value[count]);
            }
        }
    }

    /** What a text tells; names stand in slots, kinds from 0 on, benches from 3 on. */
    static final class Plan {
        private static final int SLOTS = MAX_KINDS + MAX_BENCHES;
        int kinds;
        int benches;
        int streams;
        final int[] setup = new int[MAX_BENCHES];
        final int[] rest = new int[MAX_BENCHES];
        final int[] every = new int[MAX_BENCHES];
        final int[] streamKind = new int[MAX_STREAMS];
        final int[] streamEvery = new int[MAX_STREAMS];
        final int[] streamFrom = new int[MAX_STREAMS];
        final int[] nameLetters = new int[SLOTS * NAME_LETTERS];
        final int[] nameSizes = new int[SLOTS];
        final Levers told = new Levers();

        void clear() {
            kinds = 0;
            benches = 0;
            streams = 0;
            Arrays.fill(setup, 0);
            Arrays.fill(rest, 0);
            Arrays.fill(every, 0);
            told.clear();
        }

        void copy(Plan from) {
            kinds = from.kinds;
            benches = from.benches;
            streams = from.streams;
            System.arraycopy(from.setup, 0, setup, 0, MAX_BENCHES);
            System.arraycopy(from.rest, 0, rest, 0, MAX_BENCHES);
            System.arraycopy(from.every, 0, every, 0, MAX_BENCHES);
            System.arraycopy(from.streamKind, 0, streamKind, 0, MAX_STREAMS);
            System.arraycopy(from.streamEvery, 0, streamEvery, 0, MAX_STREAMS);
            System.arraycopy(from.streamFrom, 0, streamFrom, 0, MAX_STREAMS);
            System.arraycopy(from.nameLetters, 0, nameLetters, 0, SLOTS * NAME_LETTERS);
            System.arraycopy(from.nameSizes, 0, nameSizes, 0, SLOTS);
            told.copy(from.told);
        }
    }

    /** The tape's first bytes as tokens, the last of which is the end. */
    static final class Tokens {
        static final int END = 0;
        static final int WORD = 1;
        static final int WHOLE = 2;
        static final int SEMICOLON = 3;
        static final int COMMA = 4;
        static final int NO_TOKEN = 5;

        static final int WARE = 0;
        static final int BENCH = 1;
        static final int SETUP = 2;
        static final int REST = 3;
        static final int EVERY = 4;
        static final int CARDS = 5;
        static final int ORDER = 6;
        static final int FROM = 7;
        static final int RULE = 8;
        static final int FIRST = 9;
        static final int MOST = 10;
        static final int TURN = 11;
        static final int NAME = 12;

        // Each word that is no name, six signs wide, so that its number is its place by six.
        private static final String WORDS =
            "ware  bench setup rest  every cards order from  rule  first most  turn  ";
        private static final int MAX_DIGITS = 4;

        private final byte[] tape;
        final int[] sorts = new int[TAPE_BYTES + 1];
        final int[] places = new int[TAPE_BYTES + 1];
        final int[] sizes = new int[TAPE_BYTES + 1];
        // Of a whole its number, of a word which one it is.
        final int[] values = new int[TAPE_BYTES + 1];
        private int length;

        Tokens(byte[] tape) {
            this.tape = tape;
        }

        void scan(int n) {
            length = Math.min(n, TAPE_BYTES);
            int count = 0;
            int at = 0;
            while (at < length) {
                if (tape[at] == ' ') {
                    at++;
                } else {
                    scanToken(count, at);
                    at += Math.max(1, sizes[count]);
                    count++;
                }
            }
            sorts[count] = END;
            places[count] = length;
        }

        private void scanToken(int i, int at) {
            places[i] = at;
            if (isLetter(at)) {
                scanWord(i, at);
            } else if (isDigit(at)) {
                scanWhole(i, at);
            } else {
                sorts[i] = tape[at] == ';' ? SEMICOLON : tape[at] == ',' ? COMMA : NO_TOKEN;
                sizes[i] = 1;
            }
        }

        private void scanWord(int i, int at) {
            int behind = at;
            while (behind < length && isLetter(behind)) {
                behind++;
            }
            sizes[i] = behind - at;
            sorts[i] = sizes[i] <= NAME_LETTERS ? WORD : NO_TOKEN;
            values[i] = NAME;
            for (int word = 0; word < NAME; word++) {
                if (isSpelled(at, sizes[i], NAME_LETTERS * word)) {
                    values[i] = word;
                }
            }
        }

        private void scanWhole(int i, int at) {
            int behind = at;
            int number = 0;
            while (behind < length && isDigit(behind)) {
                number = 10 * number + tape[behind] - '0';
                behind++;
            }
            sizes[i] = behind - at;
            sorts[i] = sizes[i] <= MAX_DIGITS ? WHOLE : NO_TOKEN;
            values[i] = number;
        }

        private boolean isSpelled(int at, int size, int word) {
            for (int j = 0; j < NAME_LETTERS; j++) {
                int sign = j < size ? tape[at + j] : ' ';
                if (WORDS.charAt(word + j) != sign) {
                    return false;
                }
            }
            return true;
        }

        private boolean isLetter(int at) {
            return tape[at] >= 'a' && tape[at] <= 'z';
        }

        private boolean isDigit(int at) {
            return tape[at] >= '0' && tape[at] <= '9';
        }

        // NONE where no byte stands: a letter that is like none of a name.
        int letterAt(int i, int j) {
            int place = places[i] + j;
            return place >= 0 && place < TAPE_BYTES ? tape[place] - 'a' : NONE;
        }
    }

    /** Reads a text into a plan of its own, so that a faulty one leaves the plan in use alone. */
    static final class Reader {
        private static final int FAULT_FORM = 1;
        private static final int FAULT_BOUNDS = 2;
        private static final int FAULT_NAME = 3;
        private static final int FAULT_TOO_MANY = 4;
        private static final int FAULT_LACKS = 5;

        private static final int MAX_SETUP = 60;
        private static final int MAX_REST = 60;
        private static final int MAX_EVERY = 99;
        private static final int MAX_FROM = 999;

        final Plan plan = new Plan();
        private final Tokens tokens;
        private int at;
        private boolean ruled;
        private int fault;

        Reader(byte[] tape) {
            tokens = new Tokens(tape);
        }

        /** Tells the fault of the tape's first n bytes, 0 without one. */
        int read(int n) {
            tokens.scan(n);
            at = 0;
            fault = 0;
            ruled = false;
            plan.clear();
            for (int i = 0; i <= TAPE_BYTES && readLine(); i++) {
                if (isSort(Tokens.END)) {
                    if (plan.kinds == 0 || plan.benches == 0) {
                        blame(FAULT_LACKS);
                    }
                    return fault;
                }
                if (!isSort(Tokens.SEMICOLON)) {
                    blame(FAULT_FORM);
                    return fault;
                }
                step();
            }
            return fault;
        }

        /** Reading stops at the first fault found, so its place is the token that was reached. */
        int placeReached() {
            return tokens.places[at];
        }

        private boolean readLine() {
            if (!isSort(Tokens.WORD)) {
                return blame(FAULT_FORM);
            }
            switch (tokens.values[at]) {
                case Tokens.WARE: return readWare();
                case Tokens.BENCH: return readBench();
                case Tokens.CARDS: return readCards();
                case Tokens.ORDER: return readOrder();
                case Tokens.RULE: return readRule();
                default: return blame(FAULT_FORM);
            }
        }

        private boolean readWare() {
            if (plan.kinds >= MAX_KINDS || plan.benches > 0) {
                return blame(FAULT_TOO_MANY);
            }
            step();
            if (!readNewName(plan.kinds)) {
                return false;
            }
            plan.kinds++;
            return true;
        }

        private boolean readBench() {
            int b = plan.benches;
            if (b >= MAX_BENCHES) {
                return blame(FAULT_TOO_MANY);
            }
            step();
            if (!readNewName(MAX_KINDS + b)) {
                return false;
            }
            plan.benches++;
            return readTimes(b) && readSetup(b) && readRest(b);
        }

        private boolean readTimes(int b) {
            if (plan.kinds == 0) {
                return blame(FAULT_FORM);
            }
            for (int k = 0; k < plan.kinds; k++) {
                if (k > 0) {
                    if (!isSort(Tokens.COMMA)) {
                        return blame(FAULT_FORM);
                    }
                    step();
                }
                int time = readWhole(1, MAX_TIME);
                if (time < 0) {
                    return false;
                }
                plan.told.times[cell(b, k)] = time;
                plan.told.cards[cell(b, k)] = 1;
            }
            return true;
        }

        private boolean readSetup(int b) {
            if (!isWord(Tokens.SETUP)) {
                return true;
            }
            step();
            int setup = readWhole(0, MAX_SETUP);
            if (setup < 0) {
                return false;
            }
            plan.setup[b] = setup;
            return true;
        }

        private boolean readRest(int b) {
            if (!isWord(Tokens.REST)) {
                return true;
            }
            step();
            int rest = readWhole(1, MAX_REST);
            if (rest < 0 || !readWord(Tokens.EVERY)) {
                return false;
            }
            int every = readWhole(1, MAX_EVERY);
            if (every < 0) {
                return false;
            }
            plan.rest[b] = rest;
            plan.every[b] = every;
            return true;
        }

        private boolean readCards() {
            step();
            int b = readOldName(MAX_KINDS, plan.benches);
            if (b < 0) {
                return false;
            }
            int k = readOldName(0, plan.kinds);
            if (k < 0) {
                return false;
            }
            int number = readWhole(0, MAX_CARDS);
            if (number < 0) {
                return false;
            }
            plan.told.cards[cell(b, k)] = number;
            return true;
        }

        private boolean readOrder() {
            int i = plan.streams;
            if (i >= MAX_STREAMS) {
                return blame(FAULT_TOO_MANY);
            }
            step();
            int k = readOldName(0, plan.kinds);
            if (k < 0 || !readWord(Tokens.EVERY)) {
                return false;
            }
            int every = readWhole(1, MAX_EVERY);
            if (every < 0 || !readWord(Tokens.FROM)) {
                return false;
            }
            int from = readWhole(0, MAX_FROM);
            if (from < 0) {
                return false;
            }
            plan.streamKind[i] = k;
            plan.streamEvery[i] = every;
            plan.streamFrom[i] = from;
            plan.streams++;
            return true;
        }

        private boolean readRule() {
            if (ruled) {
                return blame(FAULT_NAME);
            }
            ruled = true;
            step();
            if (isWord(Tokens.FIRST)) {
                plan.told.rule = RULE_FIRST;
            } else if (isWord(Tokens.MOST)) {
                plan.told.rule = RULE_MOST;
            } else if (isWord(Tokens.TURN)) {
                plan.told.rule = RULE_TURN;
            } else {
                return blame(FAULT_FORM);
            }
            step();
            return true;
        }

        private boolean readNewName(int slot) {
            if (!isWord(Tokens.NAME)) {
                return blame(FAULT_FORM);
            }
            if (placeOfName(0, plan.kinds) >= 0 || placeOfName(MAX_KINDS, plan.benches) >= 0) {
                return blame(FAULT_NAME);
            }
            int size = Math.min(tokens.sizes[at], NAME_LETTERS);
            plan.nameSizes[slot] = size;
            for (int j = 0; j < size; j++) {
                plan.nameLetters[NAME_LETTERS * slot + j] = tokens.letterAt(at, j);
            }
            step();
            return true;
        }

        private int readOldName(int slot, int number) {
            if (!isWord(Tokens.NAME)) {
                blame(FAULT_FORM);
                return NONE;
            }
            int found = placeOfName(slot, number);
            if (found < 0) {
                blame(FAULT_NAME);
                return NONE;
            }
            step();
            return found;
        }

        private int placeOfName(int slot, int number) {
            for (int i = 0; i < number; i++) {
                if (isNameIn(slot + i)) {
                    return i;
                }
            }
            return NONE;
        }

        private boolean isNameIn(int slot) {
            int size = tokens.sizes[at];
            if (plan.nameSizes[slot] != size) {
                return false;
            }
            for (int j = 0; j < size; j++) {
                if (plan.nameLetters[NAME_LETTERS * slot + j] != tokens.letterAt(at, j)) {
                    return false;
                }
            }
            return true;
        }

        private boolean readWord(int word) {
            if (!isWord(word)) {
                return blame(FAULT_FORM);
            }
            step();
            return true;
        }

        private int readWhole(int least, int most) {
            if (!isSort(Tokens.WHOLE)) {
                blame(FAULT_FORM);
                return NONE;
            }
            int whole = tokens.values[at];
            if (whole < least || whole > most) {
                blame(FAULT_BOUNDS);
                return NONE;
            }
            step();
            return whole;
        }

        private boolean isSort(int sort) {
            return tokens.sorts[at] == sort;
        }

        private boolean isWord(int word) {
            return tokens.sorts[at] == Tokens.WORD && tokens.values[at] == word;
        }

        private boolean blame(int number) {
            fault = number;
            return false;
        }

        // The end is never stepped over, so that a token always stands here.
        private void step() {
            if (tokens.sorts[at] != Tokens.END && at < TAPE_BYTES) {
                at++;
            }
        }
    }

    /** The run: what lies, works, rests and waits, and what was counted on the way. */
    static final class Line {
        private static final int SORTS = 4;
        private static final int WORKED = 0;
        private static final int RESTED = 1;
        private static final int STARVED = 2;
        private static final int BLOCKED = 3;
        private static final int SIGN_LONGS = 5;

        private final Plan plan;
        private final Levers levers;
        // By cell the wares that lie in the store, and the cards held there and at work.
        final int[] store = new int[CELLS];
        final int[] held = new int[CELLS];
        final int[] doing = new int[MAX_BENCHES];
        final int[] last = new int[MAX_BENCHES];
        private final int[] until = new int[MAX_BENCHES];
        final int[] finished = new int[MAX_BENCHES];
        private final int[] tally = new int[SORTS * MAX_BENCHES];
        final int[] peaks = new int[MAX_BENCHES];
        final int[] came = new int[MAX_KINDS];
        final int[] waiting = new int[MAX_KINDS];
        final int[] waited = new int[MAX_KINDS];
        final int[] firstDelivered = new int[MAX_KINDS];
        int minute;
        int delivered;
        int starvedAt;
        int starvedBench;

        Line(Plan plan, Levers levers) {
            this.plan = plan;
            this.levers = levers;
        }

        void start(boolean full) {
            Arrays.fill(store, 0);
            Arrays.fill(held, 0);
            if (full) {
                System.arraycopy(levers.cards, 0, store, 0, CELLS);
                System.arraycopy(levers.cards, 0, held, 0, CELLS);
            }
            Arrays.fill(doing, IDLE);
            Arrays.fill(last, NOT_ANY);
            Arrays.fill(until, 0);
            Arrays.fill(finished, 0);
            Arrays.fill(tally, 0);
            Arrays.fill(peaks, 0);
            Arrays.fill(came, 0);
            Arrays.fill(waiting, 0);
            Arrays.fill(waited, 0);
            Arrays.fill(firstDelivered, NOT_ANY);
            minute = 0;
            delivered = 0;
            starvedAt = NOT_ANY;
            starvedBench = NOT_ANY;
            raisePeaks();
        }

        void copy(Line from) {
            System.arraycopy(from.store, 0, store, 0, CELLS);
            System.arraycopy(from.held, 0, held, 0, CELLS);
            System.arraycopy(from.doing, 0, doing, 0, MAX_BENCHES);
            System.arraycopy(from.last, 0, last, 0, MAX_BENCHES);
            System.arraycopy(from.until, 0, until, 0, MAX_BENCHES);
            System.arraycopy(from.finished, 0, finished, 0, MAX_BENCHES);
            System.arraycopy(from.tally, 0, tally, 0, SORTS * MAX_BENCHES);
            System.arraycopy(from.peaks, 0, peaks, 0, MAX_BENCHES);
            System.arraycopy(from.came, 0, came, 0, MAX_KINDS);
            System.arraycopy(from.waiting, 0, waiting, 0, MAX_KINDS);
            System.arraycopy(from.waited, 0, waited, 0, MAX_KINDS);
            System.arraycopy(from.firstDelivered, 0, firstDelivered, 0, MAX_KINDS);
            minute = from.minute;
            delivered = from.delivered;
            starvedAt = from.starvedAt;
            starvedBench = from.starvedBench;
        }

        void passMinute() {
            ageOrders();
            change();
            tallyMinute();
            raisePeaks();
            minute++;
        }

        /**
         * Goes on to a minute without counting, and past minutes in which no work or rest ends and
         * no order comes: a bench that could not begin then cannot begin before one of these.
         */
        void hurryTo(int end) {
            for (int step = 0; step < end && minute < end; step++) {
                change();
                minute = nextChange(end);
            }
        }

        private int nextChange(int end) {
            int next = end;
            for (int b = 0; b < plan.benches; b++) {
                if (doing[b] != IDLE && until[b] < next) {
                    next = until[b];
                }
            }
            for (int i = 0; i < plan.streams; i++) {
                next = Math.min(next, nextOrder(i));
            }
            return Math.max(next, minute + 1);
        }

        private int nextOrder(int i) {
            int from = plan.streamFrom[i];
            if (minute < from) {
                return from;
            }
            int every = plan.streamEvery[i];
            return minute + every - remainder(minute - from, every);
        }

        void change() {
            for (int b = 0; b < plan.benches; b++) {
                endAt(b);
            }
            for (int i = 0; i < plan.streams; i++) {
                takeOrder(i);
            }
            for (int k = 0; k < plan.kinds; k++) {
                deliver(k);
            }
            for (int b = plan.benches - 1; b >= 0; b--) {
                int k = doing[b] == IDLE ? chosen(b) : NOT_ANY;
                if (k >= 0) {
                    beginAt(b, k);
                }
            }
        }

        private void endAt(int b) {
            if (doing[b] == IDLE || until[b] != minute) {
                return;
            }
            if (doing[b] == RESTS) {
                doing[b] = IDLE;
                return;
            }
            if (last[b] >= 0) {
                store[cell(b, last[b])]++;
            }
            finished[b]++;
            doing[b] = IDLE;
            if (plan.every[b] > 0 && remainder(finished[b], plan.every[b]) == 0) {
                doing[b] = RESTS;
                until[b] = minute + plan.rest[b];
            }
        }

        // An order grows older by each minute behind the one it came in, up to that of its ware.
        private void ageOrders() {
            for (int k = 0; k < plan.kinds; k++) {
                waited[k] += waiting[k];
            }
        }

        private void takeOrder(int i) {
            int gone = minute - plan.streamFrom[i];
            if (gone >= 0 && remainder(gone, plan.streamEvery[i]) == 0) {
                int k = plan.streamKind[i];
                came[k]++;
                waiting[k]++;
            }
        }

        private void deliver(int k) {
            int at = cell(plan.benches - 1, k);
            int wares = at >= 0 ? Math.min(waiting[k], store[at]) : 0;
            if (wares > 0) {
                waiting[k] -= wares;
                store[at] -= wares;
                held[at] -= wares;
                delivered += wares;
                if (firstDelivered[k] == NOT_ANY) {
                    firstDelivered[k] = minute;
                }
            }
        }

        private void beginAt(int b, int k) {
            int at = cell(b, k);
            if (b > 0) {
                store[at - MAX_KINDS]--;
                held[at - MAX_KINDS]--;
            }
            held[at]++;
            boolean other = last[b] != NOT_ANY && last[b] != k;
            until[b] = minute + levers.times[at] + (other ? plan.setup[b] : 0);
            doing[b] = WORKS;
            last[b] = k;
        }

        private int chosen(int b) {
            boolean round = levers.rule == RULE_TURN && last[b] != NOT_ANY;
            int ahead = round ? last[b] + 1 : 0;
            int best = NOT_ANY;
            int most = 0;
            for (int i = 0; i < plan.kinds; i++) {
                int k = remainder(ahead + i, plan.kinds);
                int free = freeIfCan(b, k);
                if (free > 0 && levers.rule != RULE_MOST) {
                    return k;
                }
                if (free > most) {
                    best = k;
                    most = free;
                }
            }
            return best;
        }

        // A bench can do a kind only with a free card, so 0 tells that it can't.
        private int freeIfCan(int b, int k) {
            int at = MAX_KINDS * b + k;
            if (b > 0 && store[at - MAX_KINDS] <= 0) {
                return 0;
            }
            return levers.cards[at] - held[at];
        }

        private void tallyMinute() {
            for (int b = 0; b < plan.benches; b++) {
                int sort = sortOf(b);
                tally[SORTS * b + sort]++;
                boolean early = starvedAt == NOT_ANY || starvedAt == minute;
                if (sort == STARVED && last[b] != NOT_ANY && early) {
                    starvedAt = minute;
                    starvedBench = b;
                }
            }
        }

        private int sortOf(int b) {
            if (doing[b] != IDLE) {
                return doing[b] == WORKS ? WORKED : RESTED;
            }
            for (int k = 0; k < plan.kinds; k++) {
                if (free(cell(b, k)) > 0) {
                    return STARVED;
                }
            }
            return BLOCKED;
        }

        private void raisePeaks() {
            for (int b = 0; b < plan.benches; b++) {
                peaks[b] = Math.max(peaks[b], waresIn(b));
            }
        }

        private int waresIn(int b) {
            int sum = 0;
            for (int k = 0; k < plan.kinds; k++) {
                sum += store[cell(b, k)];
            }
            return sum;
        }

        int free(int at) {
            return Math.max(0, levers.cards[at] - held[at]);
        }

        int allHeld() {
            int sum = 0;
            for (int i = 0; i < CELLS; i++) {
                sum += held[i];
            }
            return sum;
        }

        int minutesLeft(int b) {
            return doing[b] == IDLE ? 0 : until[b] - minute;
        }

        int minutesOf(int b, int sort) {
            return tally[SORTS * b + sort];
        }

        int busiestBench() {
            int best = 0;
            for (int b = 1; b < plan.benches; b++) {
                if (minutesOf(b, WORKED) > minutesOf(best, WORKED)) {
                    best = b;
                }
            }
            return best;
        }

        boolean allStreamsBegun() {
            for (int i = 0; i < plan.streams; i++) {
                if (minute <= plan.streamFrom[i]) {
                    return false;
                }
            }
            return true;
        }

        /** Writes all that the next minutes hang on into five longs; like longs, like state. */
        void sign(long[] row, int at) {
            for (int j = 0; j < SIGN_LONGS; j++) {
                row[at + j] = 0;
            }
            for (int b = 0; b < plan.benches; b++) {
                row[at + b / 2] |= signOfBench(b) << (b % 2 == 0 ? 0 : 32);
            }
            for (int k = 0; k < plan.kinds; k++) {
                row[at + 3] = (row[at + 3] << 20) + waiting[k];
            }
            for (int i = 0; i < plan.streams; i++) {
                row[at + 4] = (row[at + 4] << 10) + (nextOrder(i) - minute);
            }
        }

        // Each part has bits enough: 119 minutes, 98 wares by every, 9 wares of a kind at most; 30 in all.
        private long signOfBench(int b) {
            long sign = doing[b];
            sign = (sign << 2) + (last[b] == NOT_ANY ? MAX_KINDS : last[b]);
            sign = (sign << 7) + minutesLeft(b);
            sign = (sign << 7) + remainder(finished[b], plan.every[b]);
            for (int k = 0; k < MAX_KINDS; k++) {
                sign = (sign << 4) + store[cell(b, k)];
            }
            return sign;
        }
    }

    /** A line as it was kept, with its levers. */
    static final class Image {
        final Levers levers = new Levers();
        final Line line;
        boolean kept;

        Image(Plan plan) {
            line = new Line(plan, levers);
        }
    }

    /** Runs on paper, with levers of its own that may be tried otherwise. */
    static final class Paper {
        private final Plan plan;
        private final Levers now;
        final Levers trial = new Levers();
        private final Line line;
        // Made only once it is asked for: it is by far the largest part of an object.
        private Trace trace;
        int againOf;

        Paper(Plan plan, Levers now) {
            this.plan = plan;
            this.now = now;
            line = new Line(plan, trial);
        }

        private int tried(int t) {
            line.start(false);
            line.hurryTo(t);
            return line.delivered;
        }

        int asNow(int t) {
            trial.copy(now);
            return tried(t);
        }

        int withCards(int at, int n, int t) {
            trial.copy(now);
            trial.cards[at] = n;
            return tried(t);
        }

        int fewestFor(int d, int t) {
            trial.copy(now);
            for (int n = 1; n <= MAX_CARDS; n++) {
                for (int b = 0; b < plan.benches; b++) {
                    for (int k = 0; k < plan.kinds; k++) {
                        trial.cards[cell(b, k)] = n;
                    }
                }
                if (tried(t) >= d) {
                    return n;
                }
            }
            return NOT_ANY;
        }

        /** Leaves in the trial's levers the cards that are left. */
        void takeOut(int t) {
            int with = asNow(t);
            boolean gone = true;
            for (int round = 0; gone && round <= MAX_CARDS * CELLS; round++) {
                gone = false;
                for (int i = 0; i < CELLS; i++) {
                    if (trial.cards[i] > 0) {
                        trial.cards[i]--;
                        int without = tried(t);
                        if (without < with) {
                            trial.cards[i]++;
                        } else {
                            with = without;
                            gone = true;
                        }
                    }
                }
            }
        }

        int bestCardMore(int t) {
            int most = asNow(t);
            int best = NOT_ANY;
            for (int b = 0; b < plan.benches; b++) {
                for (int k = 0; k < plan.kinds; k++) {
                    int at = cell(b, k);
                    int had = now.cards[at];
                    int more = had < MAX_CARDS ? withCards(at, had + 1, t) : 0;
                    if (more > most) {
                        most = more;
                        best = at;
                    }
                }
            }
            return best;
        }

        int bestSwiftBench(int t) {
            int most = NONE;
            int best = 0;
            for (int b = 0; b < plan.benches; b++) {
                trial.copy(now);
                for (int k = 0; k < plan.kinds; k++) {
                    trial.times[cell(b, k)] = 1;
                }
                int swift = tried(t);
                if (swift > most) {
                    most = swift;
                    best = b;
                }
            }
            return best;
        }

        /** The first minute that comes again; againOf is then the earlier one. */
        int firstAgain(int t) {
            if (trace == null) {
                trace = new Trace();
            }
            trial.copy(now);
            line.start(false);
            trace.clear();
            for (int i = 0; i < t; i++) {
                line.change();
                line.minute++;
                if (line.allStreamsBegun()) {
                    againOf = trace.earlierLike(line, i);
                    if (againOf != NONE) {
                        return i;
                    }
                }
            }
            return NOT_ANY;
        }
    }

    /** States of a line by minute, in buckets, so that a like one is found without looking at all. */
    static final class Trace {
        private static final int BUCKET_BITS = 10;
        private static final int BUCKETS = 1 << BUCKET_BITS;
        private static final long SPREAD = 0x9E3779B97F4A7C15L;
        private final long[] rows = new long[MAX_PAPER * Line.SIGN_LONGS];
        private final int[] heads = new int[BUCKETS];
        private final int[] chain = new int[MAX_PAPER];

        void clear() {
            Arrays.fill(heads, NONE);
        }

        /** The latest minute with a state like this one; NONE, and it is kept, if there is none. */
        int earlierLike(Line line, int minute) {
            if (minute < 0 || minute >= MAX_PAPER) {
                return NONE;
            }
            line.sign(rows, Line.SIGN_LONGS * minute);
            int bucket = bucketOf(minute);
            int other = heads[bucket];
            for (int step = 0; step < MAX_PAPER && other != NONE; step++) {
                if (isAlike(minute, other)) {
                    return other;
                }
                other = chain[other];
            }
            chain[minute] = heads[bucket];
            heads[bucket] = minute;
            return NONE;
        }

        // The highest bits, since only to these all parts of a row are carried by multiplying.
        private int bucketOf(int minute) {
            long mix = 0;
            for (int j = 0; j < Line.SIGN_LONGS; j++) {
                mix = (mix ^ rows[Line.SIGN_LONGS * minute + j]) * SPREAD;
                mix ^= mix >>> 32;
            }
            return (int) (mix * SPREAD >>> (64 - BUCKET_BITS));
        }

        private boolean isAlike(int minute, int other) {
            for (int j = 0; j < Line.SIGN_LONGS; j++) {
                int at = Line.SIGN_LONGS * minute + j;
                if (rows[at] != rows[Line.SIGN_LONGS * other + j]) {
                    return false;
                }
            }
            return true;
        }
    }
}
