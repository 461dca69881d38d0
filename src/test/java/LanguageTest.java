import java.lang.reflect.Constructor;
import java.lang.reflect.Field;
import java.lang.reflect.Member;
import java.lang.reflect.Method;
import java.lang.reflect.Modifier;
import java.nio.file.Files;
import java.nio.file.Path;
import java.util.ArrayList;
import java.util.Arrays;
import java.util.List;
import java.util.TreeSet;
import java.util.regex.Matcher;
import java.util.regex.Pattern;

/** What of ../shared/LANGUAGE.md a test can see: the face, words that may not be, the library, how long methods are. */
public final class LanguageTest {
    private static final String[] FACE = {"type(int,int)int", "wipe(int)int", "undo(int)int", "fault(int)int",
        "well(int,int)int", "saying(int,int)int", "event(int,int,int)int", "back()int", "read(int)int",
        "at(int,int,int)int", "hears(int)int", "soon(int)int", "gone()int", "babel(int)int", "tell(int,int,int)int",
        "toss(int,int)int", "open(int,int)int", "iron(int)int", "draw(int,int,int)int", "forget()int", "never()int",
        "stone(int,int)int", "bucket(int)int", "ask(int)int", "chance(int,int,int,int)long", "day(int,int,int)int",
        "sheet(int,int,int)int", "lose(int)int", "lay(int,int,int,int)int", "get(int,int,int)int",
        "copy(int,int,int,int,int)int", "write(int,int)int", "count(int)int", "digest()long"};
    private static final String[] MAY_NOT_BE = {"throw", "throws", "try", "catch", "finally", "synchronized", "assert",
        "package", "static \\{", "->", "::", "Exact", "NaN", "float", "double", "Thread", "Random", "hashCode", "toString"};

    private static String told(Method m) {
        List<String> types = new ArrayList<>();
        for (Class<?> type : m.getParameterTypes()) {
            types.add(type.getName());
        }
        return m.getName() + "(" + String.join(",", types) + ")" + m.getReturnType().getName();
    }

    private static boolean isHidden(Member m) {
        return Modifier.isPrivate(m.getModifiers()) || m.isSynthetic();
    }

    private static void theFace() {
        TreeSet<String> shown = new TreeSet<>();
        TreeSet<String> names = new TreeSet<>();
        for (Method m : WellTalk.class.getDeclaredMethods()) {
            if (!isHidden(m)) {
                shown.add(told(m));
                names.add(m.getName());
                Due.due(m.getName() + " is public, not static", m.getModifiers(), Modifier.PUBLIC);
            }
        }
        Due.due("the methods of the face", shown.equals(new TreeSet<>(Arrays.asList(FACE))) ? 1 : 0, 1);
        for (Method m : WellTalk.class.getDeclaredMethods()) {
            if (Modifier.isPrivate(m.getModifiers())) {
                Due.due(m.getName() + " bears a public name", names.contains(m.getName()) ? 1 : 0, 0);
            }
        }
        TreeSet<String> fields = new TreeSet<>();
        for (Field f : WellTalk.class.getDeclaredFields()) {
            if (!isHidden(f)) {
                fields.add(f.getName());
            }
        }
        Due.due("the constants of the face", fields.equals(new TreeSet<>(List.of("NONE", "BAD", "NOT", "FULL"))) ? 1 : 0, 1);
        Constructor<?>[] made = WellTalk.class.getDeclaredConstructors();
        Due.due("one constructor", made.length, 1);
        Due.due("it is public and of nothing", made[0].getParameterCount() + made[0].getModifiers(), Modifier.PUBLIC);
        Due.due("the class is public, final", WellTalk.class.getModifiers(), Modifier.PUBLIC | Modifier.FINAL);
        Due.due("how many classes", Math.max(12, 1 + WellTalk.class.getDeclaredClasses().length), 12);
    }

    private static void classesInside() {
        List<Class<?>> all = new ArrayList<>(List.of(WellTalk.class));
        for (Class<?> c : WellTalk.class.getDeclaredClasses()) {
            Due.due(c.getName() + " is static", c.getModifiers() & Modifier.STATIC, Modifier.STATIC);
            Due.due(c.getName() + " is not public", c.getModifiers() & (Modifier.PUBLIC | Modifier.PROTECTED), 0);
            all.add(c);
        }
        for (Class<?> c : all) {
            int own = 0;
            for (Field f : c.getDeclaredFields()) {
                boolean isStatic = Modifier.isStatic(f.getModifiers());
                own += isStatic ? 0 : 1;
                Due.due(f + ": static only if final", isStatic && !Modifier.isFinal(f.getModifiers()) ? 1 : 0, 0);
            }
            Due.due(c.getName() + ": fields", Math.max(20, own), 20);
            for (Method m : c.getDeclaredMethods()) {
                Due.due(m + ": parameters", Math.max(7, m.getParameterCount()), 7);
            }
        }
    }

    private static void theSource() throws Exception {
        String source = Files.readString(Path.of("src/main/java/WellTalk.java"));
        String code = source.replaceAll("(?s)/\\*.*?\\*/", "").replaceAll("//[^\n]*", "");
        for (String word : MAY_NOT_BE) {
            String edge = word.matches("[a-z]+") ? "\\b" : "";
            Matcher m = Pattern.compile(edge + word + edge).matcher(code);
            Due.due("'" + word + "' stands in the code", m.find() ? 1 : 0, 0);
        }
        Matcher imports = Pattern.compile("import ([^;]*);").matcher(code);
        while (imports.find()) {
            Due.due("import of " + imports.group(1), imports.group(1).matches("java\\.util\\.(Arrays|ArrayList|List)") ? 1 : 0, 1);
        }
        // All calls of a run share one room: only what the constructor makes is made.
        for (String line : code.split("\n")) {
            boolean isMade = line.contains("new ");
            boolean isByConstructor = line.matches(" +private final .* = .*|        +new Path\\(\\).*|        +new BestCoin\\(\\).*|            bytes = new int.*");
            Due.due("made outside the constructor: " + line.trim(), isMade && !isByConstructor ? 1 : 0, 0);
        }
        int opened = -1;
        String[] lines = source.split("\n");
        for (int i = 0; i < lines.length; i++) {
            boolean head = lines[i].matches("( {4}| {8})[A-Za-z].*\\) \\{");
            opened = head ? i : opened;
            if (opened >= 0 && lines[i].matches("( {4}| {8})\\}")) {
                Due.due("line " + (opened + 1) + ": a method of " + (i - opened) + " lines", Math.max(60, i - opened), 60);
                opened = -1;
            }
        }
    }

    public static void main(String[] args) throws Exception {
        theFace();
        classesInside();
        theSource();
        Due.end();
    }
}
