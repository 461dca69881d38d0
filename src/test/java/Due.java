import java.lang.reflect.InvocationTargetException;
import java.util.Arrays;
import java.util.regex.Matcher;
import java.util.regex.Pattern;

/** What the tests have in common: they tell what is due, and print what is not. */
final class Due {
    private static final Pattern ROW = Pattern.compile("(\\w+)\\(([^)]*)\\) = (.+)");

    /** Eight wells, each one lower than the one ahead. */
    static final String EIGHT_DOWN = "g9;g8;g7;g6;g5;g4;g3;g2";

    private static int right = 0;
    private static int wrong = 0;
    private static String sentence = "";

    private Due() {
    }

    /** The document's sentence that the next calls hold to; it stands ahead of each answer that is not as due. */
    static void says(String words) {
        sentence = "\"" + words + "\": ";
    }

    static void due(String call, long got, long want) {
        if (got == want) {
            right++;
            return;
        }
        wrong++;
        if (wrong <= 40) {
            System.out.println(sentence + call + " answered " + got + ", due is " + want);
        }
    }

    static void dueAll(String call, long[] got, long... want) {
        due(call + ": how many answers", got.length, want.length);
        for (int i = 0; i < Math.min(got.length, want.length); i++) {
            due(call + " [" + i + "]", got[i], want[i]);
        }
    }

    static void end() {
        System.out.println(right + " answers as due, " + wrong + " not");
        if (wrong != 0 || right == 0) {
            System.exit(1);
        }
    }

    /**
     * Each row is a call and the answer that is due: "tell(0, 1, 0) = NONE". With a * for an argument it is a call for
     * each of the answers, the * being 0, 1, 2 ..: "at(*, 0, 0) = NONE 0 1 2".
     */
    static void calls(WellTalk x, String... rows) {
        for (String row : rows) {
            Matcher m = ROW.matcher(row);
            if (!m.matches()) {
                throw new IllegalArgumentException(row);
            }
            String[] want = m.group(3).split(" ");
            for (int k = 0; k < want.length; k++) {
                String args = m.group(2).replace("*", "" + k);
                due(m.group(1) + "(" + args + ")", answer(x, m.group(1), args), number(want[k]));
            }
        }
    }

    private static long answer(WellTalk x, String name, String args) {
        String[] told = args.isEmpty() ? new String[0] : args.split(", *");
        Class<?>[] types = new Class<?>[told.length];
        Arrays.fill(types, int.class);
        Object[] a = new Object[told.length];
        for (int k = 0; k < a.length; k++) {
            a[k] = (int) number(told[k]);
        }
        return answer(x, name, types, a);
    }

    /** The answer of the method so named to these arguments. */
    static long answer(WellTalk x, String name, Class<?>[] types, Object[] a) {
        try {
            return ((Number) WellTalk.class.getMethod(name, types).invoke(x, a)).longValue();
        } catch (InvocationTargetException e) {
            throw new IllegalStateException(sentence + name + Arrays.toString(a) + " has thrown", e.getCause());
        } catch (ReflectiveOperationException e) {
            throw new IllegalArgumentException(name + Arrays.toString(a), e);
        }
    }

    static long number(String s) {
        switch (s) {
            case "NONE": return -1;
            case "BAD": return -2;
            case "NOT": return -3;
            case "FULL": return -4;
            case "NULL": return -11;
            case "INDEX": return -12;
            case "CAST": return -13;
            case "STORE": return -14;
            case "SIZE": return -15;
            case "MAX": return Integer.MAX_VALUE;
            case "MIN": return Integer.MIN_VALUE;
            case "LEAST": return Long.MIN_VALUE + 2;
            default: return Long.parseLong(s);
        }
    }

    static void type(WellTalk x, int text, String s) {
        int many = x.count(2 + text);
        for (int i = 0; i < s.length(); i++) {
            due("type(" + text + ", " + (int) s.charAt(i) + ")", x.type(text, s.charAt(i)), many + i + 1);
        }
    }

    static WellTalk village(String wells, String sayings) {
        WellTalk x = new WellTalk();
        type(x, 0, wells);
        type(x, 1, sayings);
        return x;
    }

    /** A village and its events: the kind, the hour, the well of each. */
    static WellTalk village(String wells, String sayings, int... told) {
        WellTalk x = village(wells, sayings);
        events(x, told);
        return x;
    }

    /** A village in which well 1 is reached by a COIN in HOUR 39, and by no earlier one: it is COVERED from 24 to 38. */
    static WellTalk onlyInTheLastHour(String sayings) {
        return village("g0;g5", sayings, 1, 24, 1, 1, 27, 1, 1, 30, 1, 1, 33, 1, 1, 36, 1);
    }

    static void retype(WellTalk x, int text, String s) {
        x.wipe(text);
        type(x, text, s);
    }

    /** COIN, LID, DROUGHT: 0, 1, 2, then the hour and the well, each event behind the others. */
    static void events(WellTalk x, int... told) {
        int many = x.count(4);
        for (int i = 0; i + 2 < told.length; i += 3) {
            many++;
            due("event " + many, x.event(told[i], told[i + 1], told[i + 2]), many);
        }
    }

    /** at(hour, saying, what) for all HOURS from 0 on, as far as the row told goes. */
    static void dueHours(WellTalk x, int saying, int what, int... want) {
        for (int h = 0; h < want.length; h++) {
            due("at(" + h + ", " + saying + ", " + what + ")", x.at(h, saying, what), want[h]);
        }
    }
}
