import java.io.File;
import java.lang.reflect.Method;
import java.nio.charset.StandardCharsets;
import java.nio.file.Files;
import java.util.regex.Matcher;
import java.util.regex.Pattern;

/** README.md: the calls that it shows answer as it says, and it names every call of the class and every test. */
public final class ReadmeTest {
    private static final Pattern EXAMPLE = Pattern.compile("(?s)```java\n(.*?)```");
    private static final Pattern MADE = Pattern.compile("WellTalk x = new WellTalk\\(\\);");
    private static final Pattern TYPED =
        Pattern.compile("for \\(char c : \"([^\"]*)\"\\.toCharArray\\(\\)\\) x\\.type\\(([01]), c\\); +// .*");
    private static final Pattern CALL = Pattern.compile("x\\.(\\w+\\([^)]*\\)); +// = (-?\\d+) .*");

    private static void theExample(String readme) {
        Matcher example = EXAMPLE.matcher(readme);
        boolean isShown = example.find();
        Due.due("README.md shows an example", isShown ? 1 : 0, 1);
        WellTalk x = new WellTalk();
        for (String line : (isShown ? example.group(1) : "").split("\n")) {
            Matcher typed = TYPED.matcher(line);
            Matcher call = CALL.matcher(line);
            if (typed.matches()) {
                Due.type(x, Integer.parseInt(typed.group(2)), typed.group(1));
            } else if (call.matches()) {
                Due.calls(x, call.group(1) + " = " + call.group(2));
            } else {
                boolean isKnown = line.isEmpty() || MADE.matcher(line).matches();
                Due.due("README.md's line '" + line + "' is read", isKnown ? 1 : 0, 1);
            }
        }
    }

    private static void dueNamed(String readme, String what) {
        Due.due("README.md names " + what, readme.contains(what) ? 1 : 0, 1);
    }

    public static void main(String[] args) throws Exception {
        String readme = Files.readString(new File("README.md").toPath(), StandardCharsets.UTF_8);
        theExample(readme);
        for (Method m : WellTalk.class.getMethods()) {
            if (m.getDeclaringClass() == WellTalk.class) {
                dueNamed(readme, "`" + m.getName() + "`");
            }
        }
        for (File file : new File("src/test/java").listFiles()) {
            if (file.getName().endsWith("Test.java")) {
                dueNamed(readme, "| " + file.getName().replace(".java", "") + " |");
            }
        }
        Due.end();
    }
}
