import java.util.Random;

/** Random texts, right ones and broken ones. */
final class Texts {
    private static final String[] NAMES = {"a", "b", "c", "pp", "q", "rrr", "st", "uuuuuu", "warez", "f"};

    private Texts() {
    }

    static String make(Random random) {
        int kinds = 1 + random.nextInt(3);
        int benches = 1 + random.nextInt(random.nextInt(3) == 0 ? 6 : 3);
        int scale = random.nextInt(4) == 0 ? 60 : 6;
        StringBuilder s = new StringBuilder();
        for (int k = 0; k < kinds; k++) {
            add(s, "ware " + NAMES[k]);
        }
        orders(random, s, kinds);
        boolean ruled = false;
        for (int b = 0; b < benches; b++) {
            StringBuilder line = new StringBuilder("bench " + NAMES[3 + b]);
            for (int k = 0; k < kinds; k++) {
                line.append(k > 0 ? "," : "").append(random.nextBoolean() ? " " : "").append(1 + random.nextInt(scale));
            }
            if (random.nextInt(3) == 0) {
                line.append(" setup ").append(random.nextInt(scale + 1));
            }
            if (random.nextInt(3) == 0) {
                line.append(" rest ").append(1 + random.nextInt(scale)).append(" every ").append(1 + random.nextInt(5));
            }
            add(s, line.toString());
            if (!ruled && random.nextInt(3) == 0) {
                ruled = true;
                add(s, "rule " + new String[] {"first", "most", "turn"}[random.nextInt(3)]);
            }
            for (int i = random.nextInt(3); i > 0; i--) {
                add(s, "cards " + NAMES[3 + random.nextInt(b + 1)] + " " + NAMES[random.nextInt(kinds)]
                    + " " + random.nextInt(random.nextInt(4) == 0 ? 10 : 4));
            }
        }
        if (s.indexOf("order") < 0) {
            orders(random, s, kinds);
        }
        return s.length() <= 600 ? s.toString() : make(random);
    }

    private static void orders(Random random, StringBuilder s, int kinds) {
        int slow = random.nextInt(3);
        for (int i = random.nextInt(slow == 0 ? 3 : 5); i > 0; i--) {
            add(s, "order " + NAMES[random.nextInt(kinds)] + " every " + (1 + random.nextInt(slow == 0 || random.nextInt(4) == 0 ? 99 : 12))
                + " from " + random.nextInt(random.nextInt(5) == 0 ? 300 : 10));
        }
    }

    private static void add(StringBuilder s, String line) {
        if (s.length() > 0) {
            s.append(';');
        }
        s.append(line);
    }

    /** One to three changes, by which the text is often, not always, faulty. */
    static String broken(Random random, String text, String[] words) {
        StringBuilder s = new StringBuilder(text);
        for (int i = 1 + random.nextInt(3); i > 0; i--) {
            int at = random.nextInt(s.length() + 1);
            String word = words[random.nextInt(words.length)];
            switch (random.nextInt(5)) {
                case 0 -> s.insert(at, " " + word + " ");
                case 1 -> s.insert(at, word);
                case 2 -> s.delete(at, Math.min(s.length(), at + 1 + random.nextInt(5)));
                case 3 -> s.setLength(at);
                default -> {
                    int from = Math.max(0, s.lastIndexOf(" ", at));
                    int to = s.indexOf(" ", at);
                    s.replace(from, to < 0 ? s.length() : to, " " + word + " ");
                }
            }
            if (s.length() == 0) {
                s.append(word);
            }
        }
        return s.length() <= 600 ? s.toString() : text;
    }
}
