import java.io.File;
import java.nio.charset.StandardCharsets;
import java.nio.file.Files;
import java.util.ArrayList;
import java.util.List;
import java.util.regex.Matcher;
import java.util.regex.Pattern;

/** Each sentence that a test tells stands in the document, and each one of its promises and terms is told by a test. */
public final class QuotesTest {
    private static final Pattern SAYS = Pattern.compile("Due\\.says\\(((?:\\s*\\+?\\s*\"[^\"]*\")+)\\s*\\)");
    private static final Pattern WORDS = Pattern.compile("\"([^\"]*)\"");

    /** What of the document is no sentence of its own: headings, the calls' heads, fences, marks. */
    private static final String[] FRAME = {"## Promise \\d+: [^`]*", "`[^`]*`:", "Ahead of the calls [^-]*---- [a-z, ]*\\.",
        "=+ \\d", "```(text)?", "## Terms"};

    private static String read(File file) throws Exception {
        return Files.readString(file.toPath(), StandardCharsets.UTF_8);
    }

    private static List<String> quotes() throws Exception {
        List<String> all = new ArrayList<>();
        for (File file : new File("src/test/java").listFiles()) {
            Matcher says = SAYS.matcher(read(file));
            while (says.find()) {
                StringBuilder quote = new StringBuilder();
                Matcher words = WORDS.matcher(says.group(1));
                while (words.find()) {
                    quote.append(words.group(1));
                }
                all.add(quote.toString());
            }
        }
        return all;
    }

    public static void main(String[] args) throws Exception {
        String whole = read(new File("../shared/DOC.md")).replaceAll("\\s+", " ");
        char[] rest = whole.toCharArray();
        for (String quote : quotes()) {
            int at = whole.indexOf(quote);
            Due.due("'" + quote + "' stands in the document", at >= 0 ? 1 : 0, 1);
            for (; at >= 0; at = whole.indexOf(quote, at + 1)) {
                for (int i = at; i < at + quote.length(); i++) {
                    rest[i] = '\n';
                }
            }
        }
        String untold = new String(rest).substring(whole.indexOf("## Terms"), whole.indexOf("## Not promised"));
        for (String frame : FRAME) {
            untold = untold.replaceAll(frame, "\n");
        }
        for (String piece : untold.split("\n")) {
            Due.due("no test tells '" + piece.trim() + "'", piece.matches(".*[A-Za-z0-9].*") ? 1 : 0, 0);
        }
        Due.end();
    }
}
