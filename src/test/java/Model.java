import java.util.ArrayDeque;
import java.util.ArrayList;
import java.util.Arrays;
import java.util.Deque;
import java.util.HashMap;
import java.util.List;
import java.util.Map;
import java.util.NoSuchElementException;
import java.util.Set;
import java.util.regex.Matcher;
import java.util.regex.Pattern;

/**
 * The document once more, written for being read against it and in another way than the class:
 * wares and orders are things in lists, every minute is gone through, nothing is packed or reused.
 */
public final class Model {
    private static final Set<String> RESERVED = Set.of("ware", "bench", "setup", "rest", "every",
        "cards", "order", "from", "rule", "first", "most", "turn");
    private static final List<String> RULES = List.of("first", "most", "turn");

    private static final class Fault extends RuntimeException {
        private static final long serialVersionUID = 1L;
        final int number;
        final int place;

        Fault(int number, int place) {
            super("fault");
            this.number = number;
            this.place = place;
        }
    }

    private record Stream(int kind, int every, int from) { }

    private record Settings(List<List<Integer>> cards, List<List<Integer>> times, int rule) {
        Settings copy() {
            return new Settings(deep(cards), deep(times), rule);
        }

        Settings withRule(int r) {
            return new Settings(cards, times, r);
        }

        private static List<List<Integer>> deep(List<List<Integer>> from) {
            List<List<Integer>> to = new ArrayList<>();
            for (List<Integer> row : from) {
                to.add(new ArrayList<>(row));
            }
            return to;
        }
    }

    /** What a text tells. */
    private static final class Told {
        final List<String> kinds = new ArrayList<>();
        final List<String> benches = new ArrayList<>();
        final List<int[]> extras = new ArrayList<>();
        final List<Stream> streams = new ArrayList<>();
        final List<List<Integer>> cards = new ArrayList<>();
        final List<List<Integer>> times = new ArrayList<>();
        int rule = -1;
    }

    private static final class Parser {
        private final String text;
        private final List<String> tokens = new ArrayList<>();
        private final List<Integer> places = new ArrayList<>();
        private final Told told = new Told();
        private int at;

        Parser(String text) {
            this.text = text;
            Matcher m = Pattern.compile("[a-z]+|[0-9]+|[^ ]", Pattern.DOTALL).matcher(text);
            while (m.find()) {
                tokens.add(m.group());
                places.add(m.start());
            }
        }

        Told parse() {
            while (true) {
                line();
                if (at == tokens.size()) {
                    if (told.kinds.isEmpty() || told.benches.isEmpty()) {
                        throw new Fault(5, place());
                    }
                    return told;
                }
                literal(";");
            }
        }

        private int place() {
            return at < tokens.size() ? places.get(at) : text.length();
        }

        private String peek() {
            return at < tokens.size() ? tokens.get(at) : "";
        }

        private Fault fault(int number) {
            return new Fault(number, place());
        }

        private void literal(String what) {
            if (!peek().equals(what)) {
                throw fault(1);
            }
            at++;
        }

        private boolean option(String what) {
            if (!peek().equals(what)) {
                return false;
            }
            at++;
            return true;
        }

        private int whole(int low, int high) {
            if (!peek().matches("[0-9]{1,4}")) {
                throw fault(1);
            }
            int n = Integer.parseInt(peek());
            if (n < low || n > high) {
                throw fault(2);
            }
            at++;
            return n;
        }

        private String name() {
            if (!peek().matches("[a-z]{1,6}") || RESERVED.contains(peek())) {
                throw fault(1);
            }
            return peek();
        }

        private String fresh() {
            String name = name();
            if (told.kinds.contains(name) || told.benches.contains(name)) {
                throw fault(3);
            }
            at++;
            return name;
        }

        private int known(List<String> names) {
            int i = names.indexOf(name());
            if (i < 0) {
                throw fault(3);
            }
            at++;
            return i;
        }

        private void line() {
            String word = peek();
            if (word.equals("ware")) {
                if (told.kinds.size() == 3 || !told.benches.isEmpty()) {
                    throw fault(4);
                }
                at++;
                told.kinds.add(fresh());
            } else if (word.equals("bench")) {
                bench();
            } else if (word.equals("cards")) {
                at++;
                int b = known(told.benches);
                int k = known(told.kinds);
                told.cards.get(b).set(k, whole(0, 9));
            } else if (word.equals("order")) {
                if (told.streams.size() == 4) {
                    throw fault(4);
                }
                at++;
                int k = known(told.kinds);
                literal("every");
                int every = whole(1, 99);
                literal("from");
                told.streams.add(new Stream(k, every, whole(0, 999)));
            } else if (word.equals("rule")) {
                if (told.rule >= 0) {
                    throw fault(3);
                }
                at++;
                if (!RULES.contains(peek())) {
                    throw fault(1);
                }
                told.rule = RULES.indexOf(peek());
                at++;
            } else {
                throw fault(1);
            }
        }

        private void bench() {
            if (told.benches.size() == 6) {
                throw fault(4);
            }
            at++;
            told.benches.add(fresh());
            if (told.kinds.isEmpty()) {
                throw fault(1);
            }
            List<Integer> times = new ArrayList<>();
            List<Integer> cards = new ArrayList<>();
            for (int k = 0; k < told.kinds.size(); k++) {
                if (k > 0) {
                    literal(",");
                }
                times.add(whole(1, 60));
                cards.add(1);
            }
            told.times.add(times);
            told.cards.add(cards);
            int[] extra = new int[3];
            if (option("setup")) {
                extra[0] = whole(0, 60);
            }
            if (option("rest")) {
                extra[1] = whole(1, 60);
                literal("every");
                extra[2] = whole(1, 99);
            }
            told.extras.add(extra);
        }
    }

    private static final class Bench {
        String doing = "idle";
        int kind = -2;
        int end;
        int last = -2;
        int finished;
        int worked;
        int rested;
        int starved;
        int blocked;
        int peak;
        final List<Integer> store = new ArrayList<>();

        int lying(int k) {
            int n = 0;
            for (int ware : store) {
                n += ware == k ? 1 : 0;
            }
            return n;
        }

        int working(int k) {
            return doing.equals("works") && kind == k ? 1 : 0;
        }

        Bench copy() {
            Bench c = new Bench();
            c.doing = doing;
            c.kind = kind;
            c.end = end;
            c.last = last;
            c.finished = finished;
            c.worked = worked;
            c.rested = rested;
            c.starved = starved;
            c.blocked = blocked;
            c.peak = peak;
            c.store.addAll(store);
            return c;
        }
    }

    private static final class Run {
        final List<Bench> benches = new ArrayList<>();
        final List<Deque<Integer>> queues = new ArrayList<>();
        final List<List<Integer>> waits = new ArrayList<>();
        final int[] came = new int[3];
        final int[] firstOf = {-2, -2, -2};
        int minute;
        int delivered;
        int starvedAt = -2;
        int starvedBench = -2;

        Run copy() {
            Run c = new Run();
            for (Bench b : benches) {
                c.benches.add(b.copy());
            }
            for (Deque<Integer> q : queues) {
                c.queues.add(new ArrayDeque<>(q));
            }
            for (List<Integer> w : waits) {
                c.waits.add(new ArrayList<>(w));
            }
            System.arraycopy(came, 0, c.came, 0, 3);
            System.arraycopy(firstOf, 0, c.firstOf, 0, 3);
            c.minute = minute;
            c.delivered = delivered;
            c.starvedAt = starvedAt;
            c.starvedBench = starvedBench;
            return c;
        }
    }

    private record Undo(String what, int b, int k, int old) { }

    private final StringBuilder tape = new StringBuilder();
    private Told told;
    private Settings now;
    private Run run;
    private final List<Undo> acts = new ArrayList<>();
    private final Settings[] keptSettings = new Settings[2];
    private final Run[] keptRuns = new Run[2];
    private int trouble;
    private int fault;
    private int where = -1;

    // ---- the run, by the document's four points

    private Run beginning(Settings s, boolean full) {
        Run r = new Run();
        for (int b = 0; b < told.benches.size(); b++) {
            Bench bench = new Bench();
            for (int k = 0; full && k < told.kinds.size(); k++) {
                for (int i = 0; i < s.cards.get(b).get(k); i++) {
                    bench.store.add(k);
                }
            }
            bench.peak = bench.store.size();
            r.benches.add(bench);
        }
        for (int k = 0; k < told.kinds.size(); k++) {
            r.queues.add(new ArrayDeque<>());
            r.waits.add(new ArrayList<>());
        }
        return r;
    }

    private int free(Run r, Settings s, int b, int k) {
        Bench bench = r.benches.get(b);
        return Math.max(0, s.cards.get(b).get(k) - bench.lying(k) - bench.working(k));
    }

    private void minute(Run r, Settings s) {
        int t = r.minute;
        ends(r, t);
        serve(r, t);
        for (int b = told.benches.size() - 1; b >= 0; b--) {
            if (r.benches.get(b).doing.equals("idle")) {
                choose(r, s, b, t);
            }
        }
        boolean first = r.starvedAt == -2;
        for (int b = 0; b < told.benches.size(); b++) {
            Bench bench = r.benches.get(b);
            boolean anyFree = false;
            for (int k = 0; k < told.kinds.size(); k++) {
                anyFree |= free(r, s, b, k) > 0;
            }
            if (bench.doing.equals("works")) {
                bench.worked++;
            } else if (bench.doing.equals("rests")) {
                bench.rested++;
            } else if (!anyFree) {
                bench.blocked++;
            } else {
                bench.starved++;
                if (first && bench.last != -2) {
                    r.starvedAt = t;
                    r.starvedBench = b;
                }
            }
            bench.peak = Math.max(bench.peak, bench.store.size());
        }
        r.minute++;
    }

    private void ends(Run r, int t) {
        for (int b = 0; b < told.benches.size(); b++) {
            Bench bench = r.benches.get(b);
            int[] extra = told.extras.get(b);
            if (bench.doing.equals("works") && bench.end == t) {
                bench.store.add(bench.kind);
                bench.finished++;
                bench.kind = -2;
                bench.doing = "idle";
                if (extra[2] > 0 && bench.finished % extra[2] == 0) {
                    bench.doing = "rests";
                    bench.end = t + extra[1];
                }
            } else if (bench.doing.equals("rests") && bench.end == t) {
                bench.doing = "idle";
            }
        }
    }

    private void serve(Run r, int t) {
        for (Stream stream : told.streams) {
            if (t >= stream.from && (t - stream.from) % stream.every == 0) {
                r.came[stream.kind]++;
                r.queues.get(stream.kind).addLast(t);
            }
        }
        List<Integer> lastStore = r.benches.get(r.benches.size() - 1).store;
        for (int k = 0; k < told.kinds.size(); k++) {
            while (!r.queues.get(k).isEmpty() && lastStore.contains(k)) {
                lastStore.remove(Integer.valueOf(k));
                r.waits.get(k).add(t - r.queues.get(k).removeFirst());
                r.delivered++;
                if (r.firstOf[k] == -2) {
                    r.firstOf[k] = t;
                }
            }
        }
    }

    private void choose(Run r, Settings s, int b, int t) {
        Bench bench = r.benches.get(b);
        List<Integer> can = new ArrayList<>();
        for (int k = 0; k < told.kinds.size(); k++) {
            boolean ahead = b == 0 || r.benches.get(b - 1).store.contains(k);
            if (free(r, s, b, k) > 0 && ahead) {
                can.add(k);
            }
        }
        if (can.isEmpty()) {
            return;
        }
        int kind = can.get(0);
        if (s.rule == 1) {
            for (int k : can) {
                if (free(r, s, b, k) > free(r, s, b, kind)) {
                    kind = k;
                }
            }
        } else if (s.rule == 2 && bench.last != -2) {
            for (int i = told.kinds.size(); i >= 1; i--) {
                int k = (bench.last + i) % told.kinds.size();
                if (can.contains(k)) {
                    kind = k;
                }
            }
        }
        if (b > 0) {
            r.benches.get(b - 1).store.remove(Integer.valueOf(kind));
        }
        bench.end = t + s.times.get(b).get(kind);
        if (bench.last != -2 && bench.last != kind) {
            bench.end += told.extras.get(b)[0];
        }
        bench.doing = "works";
        bench.kind = kind;
        bench.last = kind;
    }

    // ---- refusals

    private int no(int number) {
        trouble = number;
        where = -1;
        return -1;
    }

    private int yes(int answer) {
        trouble = 0;
        where = -1;
        return answer;
    }

    private boolean noBench(int b) {
        return told == null || b < 0 || b >= told.benches.size();
    }

    private boolean noKind(int k) {
        return told == null || k < 0 || k >= told.kinds.size();
    }

    private static boolean out(int n, int low, int high) {
        return n < low || n > high;
    }

    // ---- the face

    public int feed(int a, int b, int c, int d, int e) {
        if (tape.length() + 20 > 600) {
            return -1;
        }
        for (int four : new int[] {a, b, c, d, e}) {
            tape.append((char) (four >>> 24)).append((char) (four >>> 16 & 255));
            tape.append((char) (four >>> 8 & 255)).append((char) (four & 255));
        }
        return tape.length();
    }

    public int text(int n) {
        if (out(n, 0, tape.length())) {
            return no(2);
        }
        String text = tape.substring(0, n);
        tape.setLength(0);
        try {
            told = new Parser(text).parse();
        } catch (Fault f) {
            no(4);
            fault = f.number;
            where = f.place;
            return -1;
        }
        fault = 0;
        now = new Settings(told.cards, told.times, Math.max(0, told.rule)).copy();
        run = beginning(now, false);
        acts.clear();
        Arrays.fill(keptRuns, null);
        return yes(told.benches.size());
    }

    public int fault() {
        return fault;
    }

    public int where() {
        return where;
    }

    public int about(int what) {
        if (told == null || out(what, 0, 7)) {
            return no(1);
        }
        int held = 0;
        for (Bench b : run.benches) {
            held += b.store.size() + (b.doing.equals("works") ? 1 : 0);
        }
        int[] all = {told.kinds.size(), told.benches.size(), told.streams.size(), now.rule,
            run.minute, sum(now.cards), held, acts.size()};
        return yes(all[what]);
    }

    private static int sum(List<List<Integer>> rows) {
        int sum = 0;
        for (List<Integer> row : rows) {
            for (int n : row) {
                sum += n;
            }
        }
        return sum;
    }

    public int bench(int b, int what) {
        if (noBench(b) || out(what, 0, 3)) {
            return no(1);
        }
        return yes(what < 3 ? told.extras.get(b)[what] : sum(List.of(now.times.get(b))));
    }

    public int timeOf(int b, int k) {
        return noBench(b) || noKind(k) ? no(1) : yes(now.times.get(b).get(k));
    }

    public int stream(int i, int what) {
        if (told == null || out(i, 0, told.streams.size() - 1) || out(what, 0, 2)) {
            return no(1);
        }
        Stream s = told.streams.get(i);
        return yes(new int[] {s.kind, s.every, s.from}[what]);
    }

    public int cardsOf(int b, int k, int what) {
        if (noBench(b) || noKind(k) || out(what, 0, 3)) {
            return no(1);
        }
        Bench bench = run.benches.get(b);
        return yes(new int[] {now.cards.get(b).get(k), bench.lying(k), bench.working(k),
            free(run, now, b, k)}[what]);
    }

    public boolean begin(boolean full) {
        if (told == null) {
            return no(1) == 0;
        }
        run = beginning(now, full);
        return yes(1) == 1;
    }

    public int run(int n) {
        if (told == null) {
            return no(1);
        }
        if (out(n, 1, 500)) {
            return no(2);
        }
        if (run.minute + n > 9999) {
            return no(5);
        }
        int had = run.delivered;
        for (int i = 0; i < n; i++) {
            minute(run, now);
        }
        return yes(run.delivered - had);
    }

    public int does(int b, int what) {
        if (noBench(b) || out(what, 0, 3)) {
            return no(1);
        }
        Bench bench = run.benches.get(b);
        boolean idle = bench.doing.equals("idle");
        boolean works = bench.doing.equals("works");
        return yes(new int[] {idle ? 0 : works ? 1 : 2, works ? bench.kind : -2,
            idle ? 0 : bench.end - run.minute, bench.last}[what]);
    }

    public int counts(int b, int what) {
        if (noBench(b) || out(what, 0, 4)) {
            return no(1);
        }
        Bench x = run.benches.get(b);
        return yes(new int[] {x.finished, x.worked, x.rested, x.starved, x.blocked}[what]);
    }

    public int orders(int k, int what) {
        if (noKind(k) || out(what, 0, 3)) {
            return no(1);
        }
        int waited = 0;
        for (int w : run.waits.get(k)) {
            waited += w;
        }
        for (int came : run.queues.get(k)) {
            waited += run.minute - 1 - came;
        }
        return yes(new int[] {run.came[k], run.waits.get(k).size(), run.queues.get(k).size(),
            waited}[what]);
    }

    public int starved(int what) {
        if (told == null || out(what, 0, 1)) {
            return no(1);
        }
        if (run.starvedAt == -2) {
            return no(6);
        }
        return yes(what == 0 ? run.starvedAt : run.starvedBench);
    }

    public int peak(int b) {
        return noBench(b) ? no(1) : yes(run.benches.get(b).peak);
    }

    public int firstOf(int k) {
        return noKind(k) ? no(1) : yes(run.firstOf[k]);
    }

    public int rate(int what) {
        if (told == null || out(what, 0, 1)) {
            return no(1);
        }
        if (run.minute == 0) {
            return no(5);
        }
        int above = run.delivered;
        int below = run.minute;
        for (int d = below; d > 1; d--) {
            if (above % d == 0 && below % d == 0) {
                above /= d;
                below /= d;
            }
        }
        return yes(what == 0 ? above : below);
    }

    public int busiest() {
        if (told == null) {
            return no(1);
        }
        int best = 0;
        for (int b = 0; b < told.benches.size(); b++) {
            if (run.benches.get(b).worked > run.benches.get(best).worked) {
                best = b;
            }
        }
        return yes(best);
    }

    private int paper(Settings s, int t) {
        Run r = beginning(s, false);
        for (int i = 0; i < t; i++) {
            minute(r, s);
        }
        return r.delivered;
    }

    public int yields(int t) {
        if (told == null) {
            return no(1);
        }
        return out(t, 1, 2000) ? no(2) : yes(paper(now, t));
    }

    public int would(int b, int k, int n, int t) {
        if (noBench(b) || noKind(k)) {
            return no(1);
        }
        if (out(n, 0, 9) || out(t, 1, 2000)) {
            return no(2);
        }
        Settings s = now.copy();
        s.cards.get(b).set(k, n);
        return yes(paper(s, t));
    }

    public int fewest(int d, int t) {
        if (told == null) {
            return no(1);
        }
        if (out(d, 0, 9999) || out(t, 1, 2000)) {
            return no(2);
        }
        for (int n = 1; n <= 9; n++) {
            Settings s = now.copy();
            for (List<Integer> row : s.cards) {
                for (int k = 0; k < row.size(); k++) {
                    row.set(k, n);
                }
            }
            if (paper(s, t) >= d) {
                return yes(n);
            }
        }
        return yes(-2);
    }

    private List<List<Integer>> thinned(int t) {
        Settings s = now.copy();
        boolean gone;
        do {
            gone = false;
            for (List<Integer> row : s.cards) {
                for (int k = 0; k < row.size(); k++) {
                    if (row.get(k) > 0) {
                        int with = paper(s, t);
                        row.set(k, row.get(k) - 1);
                        if (paper(s, t) >= with) {
                            gone = true;
                        } else {
                            row.set(k, row.get(k) + 1);
                        }
                    }
                }
            }
        } while (gone);
        return s.cards;
    }

    public int thin(int t) {
        if (told == null) {
            return no(1);
        }
        return out(t, 1, 2000) ? no(2) : yes(sum(thinned(t)));
    }

    public int thinAt(int b, int k, int t) {
        if (noBench(b) || noKind(k)) {
            return no(1);
        }
        return out(t, 1, 2000) ? no(2) : yes(thinned(t).get(b).get(k));
    }

    public int helps(int t) {
        if (told == null) {
            return no(1);
        }
        if (out(t, 1, 2000)) {
            return no(2);
        }
        int best = -2;
        int most = paper(now, t);
        for (int b = 0; b < told.benches.size(); b++) {
            for (int k = 0; k < told.kinds.size(); k++) {
                if (now.cards.get(b).get(k) < 9) {
                    Settings s = now.copy();
                    s.cards.get(b).set(k, now.cards.get(b).get(k) + 1);
                    int y = paper(s, t);
                    if (y > most) {
                        most = y;
                        best = 3 * b + k;
                    }
                }
            }
        }
        return yes(best);
    }

    public int holds(int t) {
        if (told == null) {
            return no(1);
        }
        if (out(t, 1, 2000)) {
            return no(2);
        }
        int best = -2;
        int most = -1;
        for (int b = 0; b < told.benches.size(); b++) {
            Settings s = now.copy();
            for (int k = 0; k < told.kinds.size(); k++) {
                s.times.get(b).set(k, 1);
            }
            int y = paper(s, t);
            if (y > most) {
                most = y;
                best = b;
            }
        }
        return yes(best);
    }

    public int comesAgain(int t, int what) {
        if (told == null || out(what, 0, 1)) {
            return no(1);
        }
        if (out(t, 1, 2000)) {
            return no(2);
        }
        Map<String, Integer> seen = new HashMap<>();
        Run r = beginning(now, false);
        for (int i = 0; i < t; i++) {
            minute(r, now);
            String state = state(r, i);
            if (state != null) {
                Integer earlier = seen.put(state, i);
                if (earlier != null) {
                    return yes(what == 0 ? i : i - earlier);
                }
            }
        }
        return yes(-2);
    }

    private String state(Run r, int gone) {
        StringBuilder s = new StringBuilder();
        for (int b = 0; b < told.benches.size(); b++) {
            Bench x = r.benches.get(b);
            int every = told.extras.get(b)[2];
            s.append(x.doing).append(' ').append(x.kind).append(' ');
            s.append(x.doing.equals("idle") ? 0 : x.end - gone).append(' ').append(x.last).append(' ');
            s.append(every > 0 ? x.finished % every : 0).append(':');
            for (int k = 0; k < told.kinds.size(); k++) {
                s.append(x.lying(k)).append(' ');
            }
        }
        for (Deque<Integer> q : r.queues) {
            s.append('w').append(q.size());
        }
        for (Stream stream : told.streams) {
            if (gone < stream.from) {
                return null;
            }
            int next = gone + 1;
            while ((next - stream.from) % stream.every != 0) {
                next++;
            }
            s.append('n').append(next - gone);
        }
        return s.toString();
    }

    private void act(Undo undo) {
        acts.add(undo);
        if (acts.size() > 10) {
            acts.remove(0);
        }
    }

    public int cards(int b, int k, int n) {
        if (noBench(b) || noKind(k)) {
            return no(1);
        }
        if (out(n, 0, 9)) {
            return no(2);
        }
        int old = now.cards.get(b).set(k, n);
        act(new Undo("cards", b, k, old));
        return yes(old);
    }

    public int time(int b, int k, int t) {
        if (noBench(b) || noKind(k)) {
            return no(1);
        }
        if (out(t, 1, 60)) {
            return no(2);
        }
        int old = now.times.get(b).set(k, t);
        act(new Undo("time", b, k, old));
        return yes(old);
    }

    public int rule(int r) {
        if (told == null) {
            return no(1);
        }
        if (out(r, 0, 2)) {
            return no(2);
        }
        int old = now.rule;
        now = now.withRule(r);
        act(new Undo("rule", 0, 0, old));
        return yes(old);
    }

    public int undo() {
        if (told == null) {
            return no(1);
        }
        if (acts.isEmpty()) {
            return no(5);
        }
        Undo u = acts.remove(acts.size() - 1);
        if (u.what.equals("cards")) {
            now.cards.get(u.b).set(u.k, u.old);
        } else if (u.what.equals("time")) {
            now.times.get(u.b).set(u.k, u.old);
        } else {
            now = now.withRule(u.old);
        }
        return yes(acts.size());
    }

    public boolean keep(int i) {
        if (told == null || out(i, 0, 1)) {
            return no(1) == 0;
        }
        keptSettings[i] = now.copy();
        keptRuns[i] = run.copy();
        return yes(1) == 1;
    }

    public boolean back(int i) {
        if (told == null || out(i, 0, 1) || keptRuns[i] == null) {
            return no(1) == 0;
        }
        now = keptSettings[i].copy();
        run = keptRuns[i].copy();
        acts.clear();
        return yes(1) == 1;
    }

    public int letter(boolean kind, int n, int i) throws NoSuchElementException {
        if (kind ? noKind(n) : noBench(n)) {
            throw new NoSuchElementException();
        }
        String name = kind ? told.kinds.get(n) : told.benches.get(n);
        if (i < 0 || i >= name.length()) {
            throw new NoSuchElementException();
        }
        return name.charAt(i) - 'a';
    }

    public int bytes() {
        return tape.length();
    }

    public int trouble() {
        return trouble;
    }
}
