import java.util.Random;

/** Random texts, many of them faulty: answer, fault and place must be those of the model. */
public final class TextTest {
    private static final int TEXTS = Integer.getInteger("texts", 60000);
    private static final long SEED = Long.getLong("seed", 37L);
    private static final String[] WORDS = {"ware", "bench", "setup", "rest", "every", "cards", "order",
        "from", "rule", "first", "most", "turn", "a", "b", "pp", "q", "sixsix", "sevenss", "0", "1", "9",
        "10", "60", "61", "99", "100", "999", "1000", "9999", "00001", "0007", ";", ",", "A", "!", "\u00e9",
        "\u0000", ";ware x;", ";ware a;", ";bench zz 1;", ";bench zz 1,1;", ";bench q 1,1,1;", ";rule turn;",
        ";order a every 1 from 0;", ";order a every 1 from 0;order a every 9 from 999;", ";cards q a 3;",
        ";cards pp a 10;", ";ware m;ware n;ware o;", ";bench g 1;bench h 1;bench i 1;bench j 1;bench k 1"};

    public static void main(String[] args) {
        Random random = new Random(SEED);
        PullCards real = new PullCards();
        Model model = new Model();
        int[] faults = new int[6];
        int wrong = 0;
        for (int i = 0; i < TEXTS && wrong < 9; i++) {
            String text = Texts.make(random);
            if (random.nextInt(5) != 0) {
                text = Texts.broken(random, text, WORDS);
            }
            int n = random.nextInt(50) == 0 ? random.nextInt(text.length() + 2) : text.length();
            feed(real, model, text);
            int told = real.text(n);
            int due = model.text(n);
            if (told != due || real.fault() != model.fault() || real.where() != model.where()
                || real.bytes() != model.bytes() || real.trouble() != model.trouble()) {
                wrong++;
                System.out.println(text + "\n  answered " + told + ", fault " + real.fault() + " at " + real.where()
                    + "; model " + due + ", fault " + model.fault() + " at " + model.where());
            }
            faults[real.fault()]++;
            real.text(0);
            model.text(0);
        }
        for (int f = 0; f < faults.length; f++) {
            System.out.print((f == 0 ? "right " : ", fault " + f + ": ") + faults[f]);
            wrong += faults[f] == 0 ? 1 : 0;
        }
        System.out.println("; " + wrong + " otherwise");
        System.exit(wrong == 0 ? 0 : 1);
    }

    private static void feed(PullCards real, Model model, String text) {
        for (int i = 0; i < text.length(); i += 20) {
            int[] five = new int[5];
            for (int j = 0; j < 20; j++) {
                int sign = i + j < text.length() ? text.charAt(i + j) : ' ';
                five[j / 4] = five[j / 4] << 8 | sign;
            }
            real.feed(five[0], five[1], five[2], five[3], five[4]);
            model.feed(five[0], five[1], five[2], five[3], five[4]);
        }
    }
}
