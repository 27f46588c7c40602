import java.io.IOException;
import java.lang.reflect.InvocationTargetException;
import java.lang.reflect.Method;
import java.lang.reflect.Modifier;
import java.nio.file.Files;
import java.nio.file.Path;
import java.util.List;
import java.util.regex.Matcher;
import java.util.regex.Pattern;
import java.util.stream.Stream;

/** README.md: each call of its example answers what stands behind it; each call and each test is named. */
public final class ReadmeTest {
    private static final Pattern CALL = Pattern.compile("x\\.(\\w+)\\(([^)]*)\\);\\s*// (-?\\d+|true|false)\\b.*");
    private static final int LEAST_CALLS = 10;
    private static int wrong = 0;

    public static void main(String[] args) throws IOException {
        List<String> lines = Files.readAllLines(Path.of("README.md"));
        int calls = followExample(lines);
        is("the example has " + calls + " calls", calls >= LEAST_CALLS);
        String page = String.join("\n", lines);
        for (Method m : PullCards.class.getDeclaredMethods()) {
            if (Modifier.isPublic(m.getModifiers())) {
                is("the call " + m.getName() + " is named", page.contains("`" + m.getName() + "`"));
            }
        }
        is(".ci/run is named", page.contains("    .ci/run\n"));
        nameTests(page);
        System.out.println(calls + " calls of README.md's example, " + wrong + " things otherwise");
        System.exit(wrong == 0 ? 0 : 1);
    }

    private static int followExample(List<String> lines) {
        PullCards x = new PullCards();
        int calls = 0;
        for (String line : lines) {
            Matcher m = CALL.matcher(line);
            is("a call and its answer: " + line, m.matches() || !line.startsWith("x."));
            if (m.matches()) {
                String got = answer(x, m.group(1), m.group(2).isEmpty() ? new String[0] : m.group(2).split(",\\s*"));
                is(line + " answered " + got, got.equals(m.group(3)));
                calls++;
            }
        }
        return calls;
    }

    private static String answer(PullCards x, String name, String[] words) {
        for (Method m : PullCards.class.getDeclaredMethods()) {
            if (Modifier.isPublic(m.getModifiers()) && m.getName().equals(name) && m.getParameterCount() == words.length) {
                Object[] given = new Object[words.length];
                for (int i = 0; i < words.length; i++) {
                    boolean truth = m.getParameterTypes()[i] == boolean.class;
                    given[i] = truth ? (Object) Boolean.valueOf(words[i]) : Integer.valueOf(words[i]);
                }
                try {
                    return String.valueOf(m.invoke(x, given));
                } catch (InvocationTargetException | IllegalAccessException e) {
                    return "throws " + e.getCause();
                }
            }
        }
        return "no such call";
    }

    private static void nameTests(String page) throws IOException {
        try (Stream<Path> files = Files.list(Path.of("src/test/java"))) {
            for (Path file : files.toList()) {
                String name = file.getFileName().toString().replace(".java", "");
                if (name.endsWith("Test")) {
                    is("the test " + name + " is named", page.contains("| `" + name + "` |"));
                }
            }
        }
        Matcher m = Pattern.compile("\\| `(\\w+Test)` \\|").matcher(page);
        while (m.find()) {
            is("there is a test " + m.group(1), Files.exists(Path.of("src/test/java", m.group(1) + ".java")));
        }
    }

    private static void is(String what, boolean holds) {
        if (!holds) {
            wrong++;
            System.out.println("not so: " + what);
        }
    }
}
