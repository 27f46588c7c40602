import java.util.Random;

/**
 * Texts as wide as the document allows (six benches, times, setups and rests up to 60, EVERY up to 99,
 * from up to 999), asked far on paper and run to the last minute: answered alike by class and model.
 */
public final class WideTest {
    private static final int RUNS = Integer.getInteger("runs", 120);
    private static final long SEED = Long.getLong("seed", 20261118L);
    private static final String[] RULES = {"first", "most", "turn"};
    private static final int LAST_MINUTE = 9999;

    private final Random random;
    private final PullCards real = new PullCards();
    private final Model model = new Model();
    private String text;
    private int kinds;
    private int benches;
    private static int wrong = 0;
    private static int calls = 0;
    private static int again = 0;

    private WideTest(long seed) {
        random = new Random(seed);
    }

    public static void main(String[] args) {
        for (int i = 0; i < RUNS && wrong < 10; i++) {
            WideTest run = new WideTest(SEED + i);
            run.makeText();
            run.tell();
            run.askOnPaper();
            run.runToTheEnd();
        }
        System.out.println(RUNS + " wide texts, " + calls + " calls, " + again + " come again, " + wrong + " otherwise");
        System.exit(wrong == 0 ? 0 : 1);
    }

    private int upTo(int most) {
        return 1 + random.nextInt(most);
    }

    private static char kind(int k) {
        return (char) ('a' + k);
    }

    private static char bench(int b) {
        return (char) ('p' + b);
    }

    private void makeText() {
        do {
            kinds = upTo(3);
            benches = upTo(6);
            int scale = random.nextBoolean() ? 60 : upTo(12);
            StringBuilder s = new StringBuilder("rule ").append(RULES[random.nextInt(3)]);
            for (int k = 0; k < kinds; k++) {
                s.append(";ware ").append(kind(k));
            }
            for (int b = 0; b < benches; b++) {
                addBench(s, b, scale);
            }
            for (int i = random.nextInt(5); i > 0; i--) {
                s.append(";order ").append(kind(random.nextInt(kinds))).append(" every ").append(upTo(99));
                s.append(" from ").append(random.nextInt(random.nextInt(4) == 0 ? 1000 : 20));
            }
            text = s.toString();
        } while (text.length() > 600);
    }

    private void addBench(StringBuilder s, int b, int scale) {
        s.append(";bench ").append(bench(b));
        for (int k = 0; k < kinds; k++) {
            s.append(k > 0 ? "," : " ").append(upTo(scale));
        }
        if (random.nextBoolean()) {
            s.append(" setup ").append(random.nextInt(scale + 1));
        }
        if (random.nextBoolean()) {
            s.append(" rest ").append(upTo(scale)).append(" every ").append(upTo(random.nextBoolean() ? 99 : 9));
        }
        for (int k = 0; k < kinds; k++) {
            if (random.nextInt(3) == 0) {
                s.append(";cards ").append(bench(b)).append(' ').append(kind(k)).append(' ').append(random.nextInt(10));
            }
        }
    }

    private void tell() {
        String padded = text + " ".repeat((20 - text.length() % 20) % 20);
        int[] fed = new int[5];
        for (int i = 0; i < padded.length(); i += 20) {
            for (int j = 0; j < 20; j++) {
                fed[j / 4] = fed[j / 4] << 8 | padded.charAt(i + j);
            }
            alike("feed", real.feed(fed[0], fed[1], fed[2], fed[3], fed[4]),
                model.feed(fed[0], fed[1], fed[2], fed[3], fed[4]));
        }
        alike("text", real.text(text.length()), model.text(text.length()));
        alike("trouble of the text", real.trouble(), 0);
    }

    private void askOnPaper() {
        int[] far = {2000, upTo(2000)};
        for (int t : far) {
            int first = real.comesAgain(t, 0);
            again += first >= 0 ? 1 : 0;
            alike("comesAgain(" + t + ", 0)", first, model.comesAgain(t, 0));
            alike("comesAgain(" + t + ", 1)", real.comesAgain(t, 1), model.comesAgain(t, 1));
            alike("yields(" + t + ")", real.yields(t), model.yields(t));
            alike("helps(" + t + ")", real.helps(t), model.helps(t));
            alike("holds(" + t + ")", real.holds(t), model.holds(t));
            int d = random.nextInt(Math.max(1, 2 * real.yields(t)));
            alike("fewest(" + d + ", " + t + ")", real.fewest(d, t), model.fewest(d, t));
        }
        int t = upTo(150);
        alike("thin(" + t + ")", real.thin(t), model.thin(t));
    }

    private void runToTheEnd() {
        boolean full = random.nextBoolean();
        alike("begin(" + full + ")", real.begin(full) ? 1 : 0, model.begin(full) ? 1 : 0);
        while (model.about(4) < LAST_MINUTE) {
            int n = Math.min(upTo(500), LAST_MINUTE - model.about(4));
            alike("run(" + n + ")", real.run(n), model.run(n));
        }
        alike("run(1) behind the last minute", real.run(1), model.run(1));
        alike("its trouble", real.trouble(), model.trouble());
        for (int what = 0; what < 5; what++) {
            for (int b = 0; b < benches; b++) {
                alike("counts(" + b + ", " + what + ")", real.counts(b, what), model.counts(b, what));
                alike("does(" + b + ", " + what + ")", real.does(b, what), model.does(b, what));
                alike("peak(" + b + ")", real.peak(b), model.peak(b));
            }
            for (int k = 0; k < kinds; k++) {
                alike("orders(" + k + ", " + what + ")", real.orders(k, what), model.orders(k, what));
                alike("firstOf(" + k + ")", real.firstOf(k), model.firstOf(k));
            }
            alike("starved(" + what + ")", real.starved(what), model.starved(what));
            alike("rate(" + what + ")", real.rate(what), model.rate(what));
        }
        alike("busiest()", real.busiest(), model.busiest());
    }

    private void alike(String call, int got, int due) {
        calls++;
        if (got != due) {
            wrong++;
            System.out.println(text + "\n  " + call + " answered " + got + ", model: " + due);
        }
    }
}
