/** What the tests have in common: they tell what is due, and print what is not. */
final class Due {
    private static int right = 0;
    private static int wrong = 0;

    private Due() {
    }

    static void due(String call, long got, long want) {
        if (got == want) {
            right++;
            return;
        }
        wrong++;
        if (wrong <= 40) {
            System.out.println(call + " answered " + got + ", due is " + want);
        }
    }

    /** The words stand for the promise that the next calls are about. */
    static void dueAll(String call, long[] got, long... want) {
        due(call + ": how many answers", got.length, want.length);
        for (int i = 0; i < Math.min(got.length, want.length); i++) {
            due(call + " [" + i + "]", got[i], want[i]);
        }
    }

    static void end() {
        System.out.println(right + " answers as due, " + wrong + " not");
        if (wrong != 0 || right == 0) {
            System.exit(1);
        }
    }

    static void type(WellTalk x, int text, String s) {
        for (int i = 0; i < s.length(); i++) {
            int many = x.count(2 + text);
            due("type(" + text + ", " + (int) s.charAt(i) + ")", x.type(text, s.charAt(i)), many + 1);
        }
    }

    static WellTalk village(String wells, String sayings) {
        WellTalk x = new WellTalk();
        type(x, 0, wells);
        type(x, 1, sayings);
        return x;
    }

    static void retype(WellTalk x, int text, String s) {
        x.wipe(text);
        type(x, text, s);
    }

    /** COIN, LID, DROUGHT: 0, 1, 2, then the hour and the well, each event behind the others. */
    static void events(WellTalk x, int... told) {
        for (int i = 0; i + 2 < told.length; i += 3) {
            int many = x.count(4);
            due("event " + many, x.event(told[i], told[i + 1], told[i + 2]), many + 1);
        }
    }

    /** at(hour, saying, what) for all HOURS from 0 on, as far as the row told goes. */
    static void dueHours(WellTalk x, int saying, int what, int... want) {
        for (int h = 0; h < want.length; h++) {
            due("at(" + h + ", " + saying + ", " + what + ")", x.at(h, saying, what), want[h]);
        }
    }
}
