import java.io.IOException;
import java.nio.file.Files;
import java.nio.file.Path;
import java.util.List;
import java.util.regex.Matcher;
import java.util.regex.Pattern;

/** What of ../shared/LANGUAGE.md can be seen from the source's text alone. */
public final class RulesTest {
    private static final String[] BANNED = {"->", "::", "\\bfinally\\b", "\\bsynchronized\\b", "\\bassert\\b",
        "\\btry\\b", "\\bcatch\\b", "\\bnative\\b", "\\bvolatile\\b", "\\bpackage\\b", "Exact\\s*\\(",
        "\\bgetMessage\\b", "\\bThread\\b", "\\bSystem\\.(?!arraycopy)", "\\bMath\\.(?!max|min|abs)",
        "\\bhashCode\\b", "\\btoString\\b", "\\binstanceof\\b", "static\\s*\\{", "\\bprotected\\b",
        "\\bdouble\\b", "\\bfloat\\b", "\\bpublic static (?!final int NONE)", "String\\[\\]"};
    private static int wrong = 0;

    public static void main(String[] args) throws IOException {
        List<String> lines = Files.readAllLines(Path.of("src/main/java/PullCards.java"));
        int from = -1;
        for (int i = 0; i < lines.size(); i++) {
            String line = lines.get(i);
            String code = line.replaceAll("//.*|^\\s*/?\\*.*", "").replaceAll("\"[^\"]*\"", "\"\"");
            for (String banned : BANNED) {
                Matcher m = Pattern.compile(banned).matcher(code);
                is(i, m.find(), "holds " + banned);
            }
            is(i, code.startsWith("import") && !code.matches("import java.util.(Arrays|NoSuchElementException);"), "imports");
            is(i, code.contains("throw new") && !code.contains("new NoSuchElementException()"), "throws");
            boolean field = code.matches(".*\\bstatic\\b[^(]*(=|;).*");
            is(i, field && !code.contains("static final"), "has a static field that isn't final");
            is(i, code.matches(".*[^=]\\s/\\s.*") && !code.matches(".*/ (common : number|2\\]).*"), "divides without a test");
            is(i, code.matches(".* % .*") && !code.matches(".*(% divisor : 0|% 2 ==).*"), "divides without a test");
            is(i, line.length() > 110, "is too long");
            if (code.matches(" {4,8}\\S.*\\) (throws \\w+ )?\\{")) {
                from = i;
            }
            if (from >= 0 && code.matches(" {4,8}\\}")) {
                is(from, i - from > 60, "begins a method of more than sixty lines");
                from = -1;
            }
        }
        System.out.println(lines.size() + " lines, " + wrong + " outside the rules");
        System.exit(wrong == 0 ? 0 : 1);
    }

    private static void is(int line, boolean broken, String what) {
        if (broken) {
            wrong++;
            System.out.println("line " + (line + 1) + " " + what);
        }
    }
}
