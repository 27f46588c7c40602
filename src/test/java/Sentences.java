import java.io.IOException;
import java.nio.file.Files;
import java.nio.file.Path;
import java.util.NoSuchElementException;

/**
 * Sentences of the document that name a boundary case, each with the checks that hang on it. They
 * are quoted word for word: one that the document doesn't hold counts as wrong, and so does one
 * without a check.
 */
class Sentences {
    static final int MIN = Integer.MIN_VALUE;
    static final int MAX = Integer.MAX_VALUE;
    /** Numbers that are too small or too large for whatever is asked. */
    static final int[] FAR = {-1, -2, MIN, MAX, MIN + 1, 1 << 16, -(1 << 16)};

    private static final String DOC = wholeDocument();
    private static String quoted = null;
    private static int sentences = 0;
    private static int checks = 0;
    private static int checksOfThis = 0;
    private static int wrong = 0;

    interface Call {
        long on(PullCards x);
    }

    // Tests extend this class for its words alone.
    Sentences() {
    }

    private static String wholeDocument() {
        try {
            return Files.readString(Path.of("../shared/DOC.md")).replaceAll("\\s+", " ");
        } catch (IOException e) {
            throw new IllegalStateException("no ../shared/DOC.md", e);
        }
    }

    /** Begins the checks of a sentence. */
    static void sentence(String quote) {
        endSentence();
        quoted = quote;
        sentences++;
        if (!DOC.contains(quote)) {
            tellWrong("the document doesn't say so");
        }
    }

    private static void endSentence() {
        if (quoted != null && checksOfThis == 0) {
            tellWrong("nothing is looked at");
        }
        checksOfThis = 0;
    }

    private static void tellWrong(String what) {
        wrong++;
        System.out.println("\"" + quoted + "\": " + what);
    }

    static void is(String what, long got, long want) {
        checks++;
        checksOfThis++;
        if (got != want) {
            tellWrong(what + " answered " + got + ", due is " + want);
        }
    }

    static void is(String what, boolean got, boolean want) {
        is(what, got ? 1 : 0, want ? 1 : 0);
    }

    static void is(String what, String got, String want) {
        checks++;
        checksOfThis++;
        if (!got.equals(want)) {
            tellWrong(what + " tells\n  " + got + "\n  due is\n  " + want);
        }
    }

    static void granted(PullCards x, String what, long got, long want) {
        is(what, got, want);
        is(what + ", its trouble", x.trouble(), 0);
    }

    static void refused(PullCards x, String what, long got, int trouble) {
        is(what, got, PullCards.NONE);
        is(what + ", its trouble", x.trouble(), trouble);
        is(what + ", where", x.where(), PullCards.NONE);
    }

    static void refused(PullCards x, String what, boolean got, int trouble) {
        refused(x, what, got ? 1 : PullCards.NONE, trouble);
    }

    /** What a call refuses whatever the state, and that it grants what lies just within the bounds. */
    static void edgesOf(String call) {
        PullCards x = Tell.of(Refusals.TEXT);
        x.run(3);
        int found = 0;
        for (Refusals.Refusal r : Refusals.withText()) {
            if (r.name().startsWith(call + "(")) {
                refused(x, r.name(), r.call().on(x), r.trouble());
                found++;
            }
        }
        for (Refusals.Refusal r : Refusals.granted()) {
            if (r.name().startsWith(call + "(")) {
                PullCards y = withAllToGrant();
                is(r.name() + " is granted", r.call().on(y) != PullCards.NONE, true);
                is(r.name() + ", its trouble", y.trouble(), 0);
                found++;
            }
        }
        for (Refusals.Refusal r : Refusals.withoutText()) {
            if (r.name().startsWith(call + "(")) {
                PullCards y = new PullCards();
                refused(y, r.name() + " without a text", r.call().on(y), 1);
                found++;
            }
        }
        is("edges of " + call + " are known", found > 0, true);
    }

    private static PullCards withAllToGrant() {
        PullCards x = Tell.of(Refusals.TEXT);
        x.run(3);
        x.keep(0);
        x.keep(1);
        x.cards(0, 0, 2);
        return x;
    }

    /** A text that is refused by 4: its fault and place, nothing told changed. */
    static void faulty(String text, int fault, int place) {
        PullCards x = Tell.of("ware kind;bench one 7;bench two 8");
        String shown = shown(text);
        is(shown, Tell.text(x, text), PullCards.NONE);
        is(shown + ", trouble", x.trouble(), 4);
        is(shown + ", fault", x.fault(), fault);
        is(shown + ", where", x.where(), place);
        is(shown + ", bytes", x.bytes(), 0);
        is(shown + ", times as they were", x.timeOf(1, 0), 8);
    }

    /** A text without a fault. */
    static PullCards right(String text, int benches) {
        PullCards x = new PullCards();
        String shown = shown(text);
        is(shown + " (fault " + x.fault() + ")", Tell.text(x, text), benches);
        is(shown + ", trouble", x.trouble(), 0);
        is(shown + ", fault", x.fault(), 0);
        is(shown + ", where", x.where(), PullCards.NONE);
        return x;
    }

    private static String shown(String text) {
        StringBuilder s = new StringBuilder();
        for (int i = 0; i < text.length() && i < 120; i++) {
            char c = text.charAt(i);
            s.append(c >= 32 && c < 127 ? String.valueOf(c) : "<" + (int) c + ">");
        }
        return s.append(" [").append(text.length()).append(']').toString();
    }

    static boolean throwsNone(PullCards x, boolean kind, int n, int i) {
        try {
            x.letter(kind, n, i);
            return false;
        } catch (NoSuchElementException e) {
            return true;
        }
    }

    static int minutes(PullCards x, int n) {
        int delivered = 0;
        for (int left = n; left > 0; left -= 500) {
            delivered += x.run(Math.min(left, 500));
        }
        return delivered;
    }

    static int finish() {
        endSentence();
        System.out.println(sentences + " sentences, " + checks + " checks, " + wrong + " wrong");
        return wrong == 0 ? 0 : 1;
    }
}
