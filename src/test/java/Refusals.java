import java.util.ArrayList;
import java.util.List;

/** Calls that must be refused, with their trouble, and calls at the very edge of what is granted. */
final class Refusals {
    /** Two kinds, two benches, two streams. */
    static final String TEXT = "ware a;ware b;bench p 2,3 setup 1;bench q 4,1 rest 2 every 3;cards p b 2;"
        + "order a every 7 from 1;order b every 5 from 0;rule turn";

    record Refusal(String name, int trouble, Sentences.Call call) { }

    private final List<Refusal> list = new ArrayList<>();

    private Refusals() {
    }

    private void add(String name, int trouble, Sentences.Call call) {
        list.add(new Refusal(name, trouble, call));
    }

    private static int yes(boolean answer) {
        return answer ? 1 : PullCards.NONE;
    }

    private static int[] farAnd(int... more) {
        int[] all = java.util.Arrays.copyOf(more, more.length + Sentences.FAR.length);
        System.arraycopy(Sentences.FAR, 0, all, more.length, Sentences.FAR.length);
        return all;
    }

    /** Of an object without a text each call that tells 1, with arguments right and wrong. */
    static List<Refusal> withoutText() {
        Refusals r = new Refusals();
        for (int n : farAnd(0, 1)) {
            r.add("about(" + n + ")", 1, x -> x.about(n));
            r.add("bench(" + n + ", 0)", 1, x -> x.bench(n, 0));
            r.add("timeOf(0, " + n + ")", 1, x -> x.timeOf(0, n));
            r.add("stream(" + n + ", 0)", 1, x -> x.stream(n, 0));
            r.add("cardsOf(0, 0, " + n + ")", 1, x -> x.cardsOf(0, 0, n));
            r.add("run(" + n + ")", 1, x -> x.run(n));
            r.add("does(" + n + ", 0)", 1, x -> x.does(n, 0));
            r.add("counts(0, " + n + ")", 1, x -> x.counts(0, n));
            r.add("orders(" + n + ", 0)", 1, x -> x.orders(n, 0));
            r.add("starved(" + n + ")", 1, x -> x.starved(n));
            r.add("peak(" + n + ")", 1, x -> x.peak(n));
            r.add("firstOf(" + n + ")", 1, x -> x.firstOf(n));
            r.add("rate(" + n + ")", 1, x -> x.rate(n));
            r.add("yields(" + n + ")", 1, x -> x.yields(n));
            r.add("would(0, 0, 1, " + n + ")", 1, x -> x.would(0, 0, 1, n));
            r.add("fewest(" + n + ", 1)", 1, x -> x.fewest(n, 1));
            r.add("thin(" + n + ")", 1, x -> x.thin(n));
            r.add("thinAt(0, 0, " + n + ")", 1, x -> x.thinAt(0, 0, n));
            r.add("helps(" + n + ")", 1, x -> x.helps(n));
            r.add("holds(" + n + ")", 1, x -> x.holds(n));
            r.add("comesAgain(" + n + ", 0)", 1, x -> x.comesAgain(n, 0));
            r.add("cards(0, 0, " + n + ")", 1, x -> x.cards(0, 0, n));
            r.add("time(0, 0, " + n + ")", 1, x -> x.time(0, 0, n));
            r.add("rule(" + n + ")", 1, x -> x.rule(n));
            r.add("keep(" + n + ")", 1, x -> yes(x.keep(n)));
            r.add("back(" + n + ")", 1, x -> yes(x.back(n)));
        }
        r.add("begin(false)", 1, x -> yes(x.begin(false)));
        r.add("begin(true)", 1, x -> yes(x.begin(true)));
        r.add("busiest()", 1, x -> x.busiest());
        r.add("undo()", 1, x -> x.undo());
        return r.list;
    }

    /** Of an object with TEXT what is refused whatever its state. */
    static List<Refusal> withText() {
        Refusals r = new Refusals();
        r.noSuchBench();
        r.noSuchKindOrStream();
        r.noSuchWhat();
        r.badMinutes();
        r.badNumbers();
        r.severalAtOnce();
        return r.list;
    }

    private void noSuchBench() {
        for (int b : farAnd(2, 3, 6)) {
            String no = "(" + b + ", ";
            add("bench" + no + "0)", 1, x -> x.bench(b, 0));
            add("timeOf" + no + "0)", 1, x -> x.timeOf(b, 0));
            add("cardsOf" + no + "0, 0)", 1, x -> x.cardsOf(b, 0, 0));
            add("does" + no + "0)", 1, x -> x.does(b, 0));
            add("counts" + no + "0)", 1, x -> x.counts(b, 0));
            add("peak(" + b + ")", 1, x -> x.peak(b));
            add("would" + no + "0, 1, 1)", 1, x -> x.would(b, 0, 1, 1));
            add("thinAt" + no + "0, 1)", 1, x -> x.thinAt(b, 0, 1));
            add("cards" + no + "0, 1)", 1, x -> x.cards(b, 0, 1));
            add("time" + no + "0, 1)", 1, x -> x.time(b, 0, 1));
            add("keep(" + b + ")", 1, x -> yes(x.keep(b)));
            add("back(" + b + ")", 1, x -> yes(x.back(b)));
        }
    }

    private void noSuchKindOrStream() {
        for (int k : farAnd(2, 3)) {
            add("timeOf(1, " + k + ")", 1, x -> x.timeOf(1, k));
            add("cardsOf(1, " + k + ", 0)", 1, x -> x.cardsOf(1, k, 0));
            add("orders(" + k + ", 0)", 1, x -> x.orders(k, 0));
            add("firstOf(" + k + ")", 1, x -> x.firstOf(k));
            add("would(1, " + k + ", 1, 1)", 1, x -> x.would(1, k, 1, 1));
            add("thinAt(1, " + k + ", 1)", 1, x -> x.thinAt(1, k, 1));
            add("cards(1, " + k + ", 1)", 1, x -> x.cards(1, k, 1));
            add("time(1, " + k + ", 1)", 1, x -> x.time(1, k, 1));
            add("stream(" + k + ", 0)", 1, x -> x.stream(k, 0));
        }
    }

    private void noSuchWhat() {
        for (int w : farAnd(8, 9)) {
            add("about(" + w + ")", 1, x -> x.about(w));
        }
        for (int w : farAnd(4, 5)) {
            add("bench(1, " + w + ")", 1, x -> x.bench(1, w));
            add("cardsOf(1, 1, " + w + ")", 1, x -> x.cardsOf(1, 1, w));
            add("does(1, " + w + ")", 1, x -> x.does(1, w));
            add("orders(1, " + w + ")", 1, x -> x.orders(1, w));
        }
        for (int w : farAnd(3, 4)) {
            add("stream(1, " + w + ")", 1, x -> x.stream(1, w));
        }
        for (int w : farAnd(5, 6)) {
            add("counts(1, " + w + ")", 1, x -> x.counts(1, w));
        }
        for (int w : farAnd(2, 3)) {
            add("starved(" + w + ")", 1, x -> x.starved(w));
            add("rate(" + w + ")", 1, x -> x.rate(w));
            add("comesAgain(1, " + w + ")", 1, x -> x.comesAgain(1, w));
        }
    }

    private void badMinutes() {
        for (int t : farAnd(0, 2001)) {
            add("yields(" + t + ")", 2, x -> x.yields(t));
            add("would(1, 1, 1, " + t + ")", 2, x -> x.would(1, 1, 1, t));
            add("fewest(1, " + t + ")", 2, x -> x.fewest(1, t));
            add("thin(" + t + ")", 2, x -> x.thin(t));
            add("thinAt(1, 1, " + t + ")", 2, x -> x.thinAt(1, 1, t));
            add("helps(" + t + ")", 2, x -> x.helps(t));
            add("holds(" + t + ")", 2, x -> x.holds(t));
            add("comesAgain(" + t + ", 0)", 2, x -> x.comesAgain(t, 0));
            add("comesAgain(" + t + ", 1)", 2, x -> x.comesAgain(t, 1));
        }
        for (int n : farAnd(0, 501)) {
            add("run(" + n + ")", 2, x -> x.run(n));
        }
    }

    private void badNumbers() {
        for (int n : farAnd(10)) {
            add("cards(1, 1, " + n + ")", 2, x -> x.cards(1, 1, n));
            add("would(1, 1, " + n + ", 1)", 2, x -> x.would(1, 1, n, 1));
        }
        for (int t : farAnd(0, 61)) {
            add("time(1, 1, " + t + ")", 2, x -> x.time(1, 1, t));
        }
        for (int r : farAnd(3)) {
            add("rule(" + r + ")", 2, x -> x.rule(r));
        }
        for (int d : farAnd(10000)) {
            add("fewest(" + d + ", 1)", 2, x -> x.fewest(d, 1));
        }
        for (int n : farAnd(601)) {
            add("text(" + n + ")", 2, x -> x.text(n));
        }
    }

    /** More than one is wrong: the one that the call tells first. */
    private void severalAtOnce() {
        add("would(2, 0, 10, 0)", 1, x -> x.would(2, 0, 10, 0));
        add("would(0, 2, -1, 2001)", 1, x -> x.would(0, 2, -1, 2001));
        add("would(0, 0, 10, 0)", 2, x -> x.would(0, 0, 10, 0));
        add("thinAt(2, 0, 0)", 1, x -> x.thinAt(2, 0, 0));
        add("thinAt(0, -1, 2001)", 1, x -> x.thinAt(0, -1, 2001));
        add("comesAgain(0, 2)", 1, x -> x.comesAgain(0, 2));
        add("comesAgain(2001, -1)", 1, x -> x.comesAgain(2001, -1));
        add("fewest(-1, 0)", 2, x -> x.fewest(-1, 0));
        add("cards(-1, 0, 10)", 1, x -> x.cards(-1, 0, 10));
        add("cards(0, 2, -1)", 1, x -> x.cards(0, 2, -1));
        add("time(2, 0, 0)", 1, x -> x.time(2, 0, 0));
        add("time(0, -1, 61)", 1, x -> x.time(0, -1, 61));
    }

    /** Of an object with TEXT calls that are granted, at the edges of their bounds. */
    static List<Refusal> granted() {
        Refusals r = new Refusals();
        r.lookedAt();
        r.onPaper();
        r.done();
        return r.list;
    }

    private void lookedAt() {
        add("about(0)", 0, x -> x.about(0));
        add("about(7)", 0, x -> x.about(7));
        add("bench(0, 0)", 0, x -> x.bench(0, 0));
        add("bench(1, 3)", 0, x -> x.bench(1, 3));
        add("timeOf(0, 0)", 0, x -> x.timeOf(0, 0));
        add("timeOf(1, 1)", 0, x -> x.timeOf(1, 1));
        add("stream(0, 0)", 0, x -> x.stream(0, 0));
        add("stream(1, 2)", 0, x -> x.stream(1, 2));
        add("cardsOf(0, 0, 0)", 0, x -> x.cardsOf(0, 0, 0));
        add("cardsOf(1, 1, 3)", 0, x -> x.cardsOf(1, 1, 3));
        add("does(0, 0)", 0, x -> x.does(0, 0));
        add("does(1, 3)", 0, x -> x.does(1, 3));
        add("counts(0, 0)", 0, x -> x.counts(0, 0));
        add("counts(1, 4)", 0, x -> x.counts(1, 4));
        add("orders(0, 0)", 0, x -> x.orders(0, 0));
        add("orders(1, 3)", 0, x -> x.orders(1, 3));
        add("peak(0)", 0, x -> x.peak(0));
        add("peak(1)", 0, x -> x.peak(1));
        add("firstOf(0)", 0, x -> x.firstOf(0));
        add("firstOf(1)", 0, x -> x.firstOf(1));
        add("busiest()", 0, x -> x.busiest());
    }

    private void onPaper() {
        for (int t : new int[] {1, 2000}) {
            add("yields(" + t + ")", 0, x -> x.yields(t));
            add("would(0, 0, 0, " + t + ")", 0, x -> x.would(0, 0, 0, t));
            add("would(1, 1, 9, " + t + ")", 0, x -> x.would(1, 1, 9, t));
            add("fewest(0, " + t + ")", 0, x -> x.fewest(0, t));
            add("fewest(9999, " + t + ")", 0, x -> x.fewest(9999, t));
            add("thin(" + t + ")", 0, x -> x.thin(t));
            add("thinAt(1, 1, " + t + ")", 0, x -> x.thinAt(1, 1, t));
            add("helps(" + t + ")", 0, x -> x.helps(t));
            add("holds(" + t + ")", 0, x -> x.holds(t));
            add("comesAgain(" + t + ", 0)", 0, x -> x.comesAgain(t, 0));
            add("comesAgain(" + t + ", 1)", 0, x -> x.comesAgain(t, 1));
        }
    }

    private void done() {
        add("begin(false)", 0, x -> yes(x.begin(false)));
        add("begin(true)", 0, x -> yes(x.begin(true)));
        add("run(1)", 0, x -> x.run(1));
        add("run(500)", 0, x -> x.run(500));
        add("rate(0)", 0, x -> x.rate(0));
        add("rate(1)", 0, x -> x.rate(1));
        add("cards(0, 0, 0)", 0, x -> x.cards(0, 0, 0));
        add("cards(1, 1, 9)", 0, x -> x.cards(1, 1, 9));
        add("time(0, 0, 1)", 0, x -> x.time(0, 0, 1));
        add("time(1, 1, 60)", 0, x -> x.time(1, 1, 60));
        add("rule(0)", 0, x -> x.rule(0));
        add("rule(2)", 0, x -> x.rule(2));
        add("undo()", 0, x -> x.undo());
        add("keep(0)", 0, x -> yes(x.keep(0)));
        add("keep(1)", 0, x -> yes(x.keep(1)));
        add("back(0)", 0, x -> yes(x.back(0)));
        add("back(1)", 0, x -> yes(x.back(1)));
    }
}
