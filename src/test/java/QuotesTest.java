import java.io.IOException;
import java.nio.file.Files;
import java.nio.file.Path;
import java.util.List;
import java.util.regex.Matcher;
import java.util.regex.Pattern;

/** Of each promise, and of the terms' lines that name faults, acts and trouble, every word is quoted by a boundary test. */
public final class QuotesTest {
    private static final List<String> TESTS = List.of("Text", "Run", "Paper", "Act");
    private static final int PROMISES = 37;
    private static int wrong = 0;

    public static void main(String[] args) throws IOException {
        String doc = Files.readString(Path.of("../shared/DOC.md")).replaceAll("\\s+", " ");
        boolean[] quoted = new boolean[doc.length()];
        int quotes = 0;
        for (String test : TESTS) {
            String source = Files.readString(Path.of("src/test/java/" + test + "BoundaryTest.java"));
            quotes += mark(doc, quoted, source);
        }
        for (int p = 1; p <= PROMISES; p++) {
            int heading = doc.indexOf("## Promise " + p + ":");
            int body = doc.indexOf("`: ", heading) + 3;
            int behind = doc.indexOf(" ## ", body);
            look("promise " + p, doc, quoted, body, behind);
        }
        // of the terms the lists of faults and of troubles; what stands between them is what is quoted piece by piece
        look("faults", doc, quoted, doc.indexOf("Told is the first TOKEN"), doc.indexOf("``` II."));
        look("trouble", doc, quoted, doc.indexOf("IMAGES 0, 1 keep"), doc.indexOf("``` The constants"));
        System.out.println(quotes + " quotes, " + wrong + " parts of the document with words that none quotes");
        System.exit(wrong == 0 ? 0 : 1);
    }

    private static int mark(String doc, boolean[] quoted, String source) {
        Matcher call = Pattern.compile("sentence\\(((?:\"[^\"]*\"\\s*\\+?\\s*)+)\\)").matcher(source);
        int quotes = 0;
        while (call.find()) {
            String quote = call.group(1).replaceAll("\"\\s*\\+\\s*\"", "").replace("\"", "").strip();
            quotes++;
            for (int at = doc.indexOf(quote); at >= 0; at = doc.indexOf(quote, at + 1)) {
                java.util.Arrays.fill(quoted, at, at + quote.length(), true);
            }
        }
        return quotes;
    }

    private static void look(String what, String doc, boolean[] quoted, int from, int behind) {
        StringBuilder left = new StringBuilder();
        for (int i = from; i < behind; i++) {
            left.append(quoted[i] ? ' ' : doc.charAt(i));
        }
        if (from < 0 || behind <= from || left.toString().matches("(?s).*[A-Za-z0-9].*")) {
            wrong++;
            System.out.println(what + ": not quoted is " + left.toString().strip());
        }
    }
}
