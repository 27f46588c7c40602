import java.lang.reflect.InvocationTargetException;
import java.lang.reflect.Method;
import java.util.ArrayList;
import java.util.Arrays;
import java.util.Comparator;
import java.util.List;
import java.util.NoSuchElementException;
import java.util.Random;

/** Random runs of calls, the same ones on PullCards and on the model: all answers must be alike. */
public final class ModelTest {
    private static final int RUNS = Integer.getInteger("runs", 400);
    private static final long SEED = Long.getLong("seed", 20261117L);
    private static final int[] EDGES = {Integer.MIN_VALUE, -3, -2, -1, 0, 1, 2, 3, 4, 5, 6, 7, 8, 9, 10,
        59, 60, 61, 499, 500, 501, 1999, 2000, 2001, 9999, 10000, Integer.MAX_VALUE};
    private static final String[] WORDS = {"ware", "bench", "setup", "rest", "every", "cards", "order",
        "from", "rule", "first", "most", "turn", "a", "b", "p", "q", "sixsix", "sevenss", "0", "1", "9",
        "10", "60", "61", "99", "100", "999", "1000", "9999", "00001", "0007", ";", ",", "A", "!", "\u00e9"};

    private final Random random;
    private final PullCards real = new PullCards();
    private final Model model = new Model();
    private final List<String> calls = new ArrayList<>();
    private int used;

    private ModelTest(long seed) {
        random = new Random(seed);
    }

    public static void main(String[] args) {
        int wrong = 0;
        long called = 0;
        for (int i = 0; i < RUNS && wrong < 5; i++) {
            ModelTest run = new ModelTest(SEED + i);
            String difference = run.go();
            called += run.used;
            if (difference != null) {
                wrong++;
                System.out.println("seed " + (SEED + i) + ":\n" + String.join("\n", run.calls));
                System.out.println(difference);
            }
        }
        System.out.println(RUNS + " random runs, " + called + " calls, " + wrong + " runs otherwise");
        System.exit(wrong == 0 ? 0 : 1);
    }

    private static final List<Method> FACE = face();

    private static List<Method> face() {
        List<Method> list = new ArrayList<>(Arrays.asList(PullCards.class.getDeclaredMethods()));
        list.removeIf(m -> !java.lang.reflect.Modifier.isPublic(m.getModifiers()));
        list.sort(Comparator.comparing(Method::getName));
        return list;
    }

    private String go() {
        int limit = 60 + random.nextInt(200);
        boolean goodText = false;
        while (used < limit) {
            String difference;
            if (used == 0 && random.nextInt(4) == 0) {
                difference = callAny();
            } else if (!goodText || random.nextInt(60) == 0) {
                boolean broken = random.nextInt(3) == 0;
                String text = Texts.make(random);
                difference = tell(broken ? Texts.broken(random, text, WORDS) : text);
                goodText |= !broken;
            } else {
                int pick = random.nextInt(8);
                difference = pick < 2 ? callRun() : pick == 2 ? callAct() : callAny();
            }
            if (difference == null) {
                difference = lookAround();
            }
            if (difference != null) {
                return difference;
            }
        }
        return null;
    }

    private String tell(String text) {
        StringBuilder padded = new StringBuilder(text);
        while (padded.length() % 20 != 0) {
            padded.append(random.nextInt(9) == 0 ? 'z' : ' ');
        }
        calls.add("text: " + text);
        String difference = null;
        for (int i = 0; i < padded.length() && difference == null; i += 20) {
            Object[] fed = new Object[5];
            for (int j = 0; j < 5; j++) {
                int four = 0;
                for (int h = 0; h < 4; h++) {
                    four = four << 8 | padded.charAt(i + 4 * j + h);
                }
                fed[j] = four;
            }
            difference = call("feed", fed);
        }
        return difference != null ? difference : call("text", random.nextInt(20) == 0 ? number() : text.length());
    }

    private String callRun() {
        return random.nextInt(8) == 0 ? call("begin", random.nextBoolean())
            : call("run", 1 + random.nextInt(random.nextInt(6) == 0 ? 500 : 12));
    }

    private String callAct() {
        int b = random.nextInt(3);
        int k = random.nextInt(2);
        switch (random.nextInt(8)) {
            case 0: return call("undo");
            case 1: return call("keep", random.nextInt(2));
            case 2: return call("back", random.nextInt(2));
            case 3: return call("rule", random.nextInt(3));
            case 4: return call("time", b, k, 1 + random.nextInt(random.nextInt(4) == 0 ? 60 : 5));
            default: return call("cards", b, k, random.nextInt(random.nextInt(4) == 0 ? 10 : 4));
        }
    }

    private String callAny() {
        Method m = FACE.get(random.nextInt(FACE.size()));
        if (m.getName().equals("text") && random.nextInt(4) != 0) {
            return null;
        }
        Object[] args = new Object[m.getParameterCount()];
        for (int i = 0; i < args.length; i++) {
            if (m.getParameterTypes()[i] == boolean.class) {
                args[i] = random.nextBoolean();
            } else if (i == 0 && (m.getName().matches("yields|thin|helps|holds|comesAgain"))
                || i == 1 && m.getName().equals("fewest") || i == 2 && m.getName().equals("thinAt")
                || i == 3 && m.getName().equals("would")) {
                args[i] = minutes(m.getName().startsWith("thin"));
            } else {
                args[i] = number();
            }
        }
        return call(m.getName(), args);
    }

    private int number() {
        return random.nextInt(10) != 0 ? random.nextInt(random.nextInt(6) == 0 ? 10 : 3)
            : EDGES[random.nextInt(EDGES.length)];
    }

    private int minutes(boolean dear) {
        int pick = random.nextInt(10);
        return pick == 0 ? EDGES[random.nextInt(EDGES.length)]
            : 1 + random.nextInt(pick < 6 || dear ? 120 : 2000);
    }

    /** Now and then everything that can be looked at. */
    private String lookAround() {
        int before = used;
        String difference = call("trouble");
        difference = difference != null ? difference : call("where");
        for (int what = 0; what < 8 && difference == null && before % 7 == 0; what++) {
            difference = call("about", what);
            for (int b = 0; b < model.about(1) && difference == null; b++) {
                difference = lookAt(b, what);
            }
            for (int k = 0; k < model.about(0) && difference == null; k++) {
                difference = call("orders", k, what);
                difference = difference != null ? difference : call("firstOf", k);
            }
            difference = difference != null ? difference : call("starved", what);
            difference = difference != null ? difference : call("rate", what);
            difference = difference != null ? difference : call("busiest");
        }
        used = before;
        return difference;
    }

    private String lookAt(int b, int what) {
        String difference = call("counts", b, what);
        difference = difference != null ? difference : call("does", b, what);
        difference = difference != null ? difference : call("peak", b);
        difference = difference != null ? difference : call("bench", b, what);
        for (int k = 0; k < model.about(0) && difference == null; k++) {
            difference = call("cardsOf", b, k, what);
        }
        return difference;
    }

    private String call(String name, Object... args) {
        used++;
        String told = answer(real, name, args);
        String due = answer(model, name, args);
        calls.add(name + Arrays.toString(args) + " = " + told);
        return told.equals(due) ? null : name + Arrays.toString(args) + " answered " + told + ", model: " + due;
    }

    private static String answer(Object on, String name, Object[] args) {
        for (Method m : FACE) {
            if (m.getName().equals(name)) {
                try {
                    return String.valueOf(on.getClass().getMethod(name, m.getParameterTypes()).invoke(on, args));
                } catch (InvocationTargetException e) {
                    Throwable cause = e.getCause();
                    if (cause instanceof NoSuchElementException) {
                        return "throws.NoSuchElementException";
                    }
                    cause.printStackTrace(System.out);
                    return "throws." + cause + " of " + on.getClass();
                } catch (ReflectiveOperationException e) {
                    return "can't be called: " + e;
                }
            }
        }
        return "no such method";
    }
}
