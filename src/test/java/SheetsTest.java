/** Promises 28 to 35: sheets, what comes to them, counts and the digest. */
public final class SheetsTest {
    private static final int LEAST = Integer.MIN_VALUE;
    private static final int BYTES = 0, SHORTS = 1, INTS = 2;

    private static void making() {
        WellTalk x = new WellTalk();
        int[][] wrong = {{-1, 0, 0}, {4, 0, 0}, {0, -1, 0}, {0, 3, 0}, {0, 0, 61}, {4, 0, -1}, {0, 3, -1},
            {0, 0, Integer.MAX_VALUE}};
        for (int[] w : wrong) {
            Due.due("sheet(" + w[0] + ", " + w[1] + ", " + w[2] + ")", x.sheet(w[0], w[1], w[2]), -2);
        }
        Due.due("count(8) behind BAD", x.count(8), 0);
        Due.due("sheet(0, 0, -1)", x.sheet(0, 0, -1), -15);
        Due.due("count(8)", x.count(8), 5);
        Due.due("it is still lost", x.lose(0), -11);
        Due.due("sheet(0, 2, least)", x.sheet(0, 2, LEAST), -15);
        Due.due("sheet(0, 0, 0)", x.sheet(0, BYTES, 0), 0);
        Due.due("lose(0)", x.lose(0), 0);
        Due.due("sheet(3, 2, 60)", x.sheet(3, INTS, 60), 60);
        Due.due("lay(3, 2, 59, 5)", x.lay(3, INTS, 59, 5), 1);
        Due.due("sheet(3, 1, -1)", x.sheet(3, SHORTS, -1), -15);
        Due.due("a refusal changes nothing", x.get(3, INTS, 59), 5);
        Due.due("sheet(3, 2, 60) anew", x.sheet(3, INTS, 60), 60);
        for (int i = 0; i < 60; i++) {
            Due.due("get(3, 2, " + i + ")", x.get(3, INTS, i), 0);
        }
        Due.due("sheet(3, 0, 2)", x.sheet(3, BYTES, 2), 2);
        Due.due("get of the new form", x.get(3, BYTES, 1), 0);
        Due.due("get of the form it had", x.get(3, INTS, 1), LEAST);
        Due.due("get behind its items", x.get(3, BYTES, 2), LEAST);
    }

    private static void losing() {
        WellTalk x = new WellTalk();
        Due.due("lose(-1)", x.lose(-1), -2);
        Due.due("lose(4)", x.lose(4), -2);
        Due.due("count(8)", x.count(8), 0);
        Due.due("lose(2)", x.lose(2), -11);
        Due.due("count(8)", x.count(8), 1);
        x.sheet(2, SHORTS, 7);
        x.sheet(1, SHORTS, 3);
        x.lay(2, SHORTS, 0, 9);
        Due.due("lose(2)", x.lose(2), 7);
        Due.due("lose(2) again", x.lose(2), -11);
        Due.due("the others stay", x.lose(1), 3);
        x.sheet(2, SHORTS, 1);
        Due.due("a new row is of zeros", x.get(2, SHORTS, 0), 0);
    }

    private static void dueCut(WellTalk x, int form, int v, int want) {
        Due.due("lay " + v, x.lay(form, form, 0, v), 1);
        Due.due("get " + v, x.get(form, form, 0), want);
    }

    private static void laying() {
        WellTalk x = new WellTalk();
        x.sheet(0, BYTES, 2);
        x.sheet(1, SHORTS, 2);
        x.sheet(2, INTS, 2);
        int[][] cut = {{BYTES, 127, 127}, {BYTES, 128, -128}, {BYTES, 255, -1}, {BYTES, 256, 0}, {BYTES, -129, 127},
            {BYTES, LEAST, 0}, {SHORTS, 32767, 32767}, {SHORTS, 32768, -32768}, {SHORTS, 65535, -1}, {SHORTS, 65536, 0},
            {SHORTS, -32769, 32767}, {SHORTS, 255, 255}, {INTS, LEAST + 1, LEAST + 1}, {INTS, 65536, 65536},
            {INTS, Integer.MAX_VALUE, Integer.MAX_VALUE}};
        for (int[] c : cut) {
            dueCut(x, c[0], c[1], c[2]);
        }
        Due.due("the other item stays", x.get(0, BYTES, 1), 0);
        int[][] wrong = {{-1, 0, 0, -2}, {4, 0, 0, -2}, {0, -1, 0, -2}, {0, 3, 0, -2}, {3, 0, 0, -11}, {3, 0, 99, -11},
            {0, 1, 0, -13}, {0, 2, 99, -13}, {2, 0, 0, -13}, {0, 0, -1, -12}, {0, 0, 2, -12}, {1, 1, LEAST, -12}};
        int latest = 0;
        for (int[] w : wrong) {
            Due.due("lay(" + w[0] + ", " + w[1] + ", " + w[2] + ")", x.lay(w[0], w[1], w[2], 1), w[3]);
            latest = w[3] < -10 ? -10 - w[3] : latest;
            Due.due("count(8)", x.count(8), latest);
        }
        Due.due("refusals change nothing", x.get(0, BYTES, 1), 0);
    }

    private static void getting() {
        WellTalk x = new WellTalk();
        x.sheet(0, BYTES, 2);
        x.lay(0, BYTES, 1, 77);
        Due.due("get(0, 0, 1)", x.get(0, BYTES, 1), 77);
        int[][] wrong = {{-1, 0, 0, 0}, {4, 0, 0, 0}, {0, -1, 0, 0}, {0, 3, 0, 0}, {3, 0, 0, 1}, {0, 1, 0, 3},
            {0, 0, -1, 2}, {3, 1, 9, 1}, {0, 0, 2, 2}, {0, 2, 2, 3}, {4, 0, 9, 3}};
        for (int[] w : wrong) {
            Due.due("get(" + w[0] + ", " + w[1] + ", " + w[2] + ")", x.get(w[0], w[1], w[2]), LEAST);
            Due.due("count(8) behind it", x.count(8), w[3]);
        }
    }

    private static void fill(WellTalk x, int s, int form, int... v) {
        x.sheet(s, form, v.length);
        for (int i = 0; i < v.length; i++) {
            x.lay(s, form, i, v[i]);
        }
    }

    private static void dueRow(WellTalk x, int s, int form, int... want) {
        for (int i = 0; i < want.length; i++) {
            Due.due("get(" + s + ", " + form + ", " + i + ")", x.get(s, form, i), want[i]);
        }
    }

    private static void copying() {
        WellTalk x = new WellTalk();
        fill(x, 0, SHORTS, 1, 2, 3, 4, 5);
        fill(x, 1, SHORTS, 9, 9, 9);
        fill(x, 2, INTS, 7, 7);
        Due.due("copy(0, 1, 1, 0, 2)", x.copy(0, 1, 1, 0, 2), 1);
        dueRow(x, 1, SHORTS, 2, 3, 9);
        dueRow(x, 0, SHORTS, 1, 2, 3, 4, 5);
        Due.due("copy(0, 0, 0, 1, 4)", x.copy(0, 0, 0, 1, 4), 1);
        dueRow(x, 0, SHORTS, 1, 1, 2, 3, 4);
        Due.due("copy(0, 1, 0, 0, 4)", x.copy(0, 1, 0, 0, 4), 1);
        dueRow(x, 0, SHORTS, 1, 2, 3, 4, 4);
        Due.due("copy of none at the ends", x.copy(0, 5, 1, 3, 0), 1);
        int[][] wrong = {{-1, 0, 0, 0, 0, -2}, {4, 0, 0, 0, 0, -2}, {0, 0, -1, 0, 0, -2}, {0, 0, 4, 0, 0, -2},
            {3, 0, 4, 0, 0, -2}, {3, 0, 0, 0, 1, -11}, {0, 0, 3, 0, 1, -11}, {3, 99, 3, 0, 1, -11}, {0, 0, 2, 0, 1, -14},
            {2, -1, 0, 0, 1, -14}, {0, -1, 1, 0, 1, -12}, {0, 0, 1, -1, 1, -12}, {0, 0, 1, 0, -1, -12},
            {0, 3, 1, 0, 3, -12}, {0, 0, 1, 1, 3, -12}, {0, 6, 1, 0, 0, -12}, {0, 0, 1, 4, 0, -12},
            {0, Integer.MAX_VALUE, 1, 0, 1, -12}, {0, 1, 1, 0, Integer.MAX_VALUE, -12},
            {0, 0, 1, Integer.MAX_VALUE, Integer.MAX_VALUE, -12}, {0, 0, 1, 0, LEAST, -12}};
        int latest = 0;
        for (int[] w : wrong) {
            String call = "copy(" + w[0] + ", " + w[1] + ", " + w[2] + ", " + w[3] + ", " + w[4] + ")";
            Due.due(call, x.copy(w[0], w[1], w[2], w[3], w[4]), w[5]);
            latest = w[5] < -10 ? -10 - w[5] : latest;
            Due.due("count(8)", x.count(8), latest);
        }
        dueRow(x, 0, SHORTS, 1, 2, 3, 4, 4);
        dueRow(x, 1, SHORTS, 2, 3, 9);
        dueRow(x, 2, INTS, 7, 7);
    }

    private static void writing() {
        WellTalk x = Due.village("g9;s5;g1", "b0ia;a7ia");
        Due.due("write(-1, 0)", x.write(-1, 0), -2);
        Due.due("write(2, 0)", x.write(2, 0), -2);
        Due.due("write(0, -1)", x.write(0, -1), -2);
        Due.due("write(0, 4)", x.write(0, 4), -2);
        Due.due("write(9, 4)", x.write(9, 4), -2);
        Due.due("count(8)", x.count(8), 0);
        Due.due("write(0, 0)", x.write(0, 0), -11);
        Due.due("count(8)", x.count(8), 1);
        x.sheet(0, BYTES, 6);
        Due.due("write(0, 0)", x.write(0, 0), 6);
        dueRow(x, 0, BYTES, -1, 0, 1, 1, 2, 2);
        x.sheet(1, SHORTS, 0);
        Due.due("write(0, 1)", x.write(0, 1), 0);
        fill(x, 2, INTS, new int[60]);
        x.lay(2, INTS, 40, 77);
        x.lay(2, INTS, 39, 77);
        Due.due("write(0, 2)", x.write(0, 2), 40);
        dueRow(x, 2, INTS, -1, 0, 1, 1, 2, 2);
        Due.due("item 39", x.get(2, INTS, 39), 2);
        Due.due("item 40", x.get(2, INTS, 40), 77);
        Due.due("write(1, 0) of a lost one", x.write(1, 0), 6);
        dueRow(x, 0, BYTES, -1, -1, -1, -1, -1, -1);
    }

    private static void counting() {
        WellTalk x = Due.village("g9;c5;g1", "a0ia;a0iab");
        Due.events(x, 0, 30, 0);
        x.draw(0, 0, 0);
        x.draw(0, 0, 1);
        x.lose(0);
        int[] want = {3, 2, 8, 10, 1, 1, 2, 2, 1};
        for (int what = 0; what < want.length; what++) {
            Due.due("count(" + what + ")", x.count(what), want[what]);
        }
        Due.events(x, 1, 2, 2);
        Due.due("count(6) as soon as there is a lid", x.count(6), 1);
        x.back();
        Due.due("count(6) as soon as there is none", x.count(6), 2);
        Due.due("count(-1)", x.count(-1), -2);
        Due.due("count(9)", x.count(9), -2);
        Due.type(x, 0, ";");
        Due.due("count(0) with a fault", x.count(0), 0);
        Due.due("count(2) with a fault", x.count(2), 9);
        Due.due("count(5) with a fault", x.count(5), 2);
        Due.due("count(6) with a fault", x.count(6), 0);
    }

    private static long folded(long... v) {
        long h = 17;
        for (long one : v) {
            h = 31 * h + one;
        }
        return h;
    }

    private static void digests() {
        WellTalk x = new WellTalk();
        long empty = folded(0, 0, 0, 0, 0, 0, 0, 0, -1, -1, 0, -1, -1, -1, -1, 0, 0, 0);
        Due.due("digest() of a new object", x.digest(), empty);
        x.lose(0);
        x.sheet(0, 1, 3);
        Due.due("digest(): findings and sheets are not in it", x.digest(), empty);
        x.draw(1, 1, 1);
        Due.due("digest() of what was drawn", x.digest(),
            folded(0, 0, 0, 0, 0, 0, 0, 1, -1, -1, 0, -1, -1, -1, -1, 0, 0, 0));
        WellTalk one = Due.village("g5", "");
        Due.due("digest() of one well", one.digest(), folded(1, 0, 2, 0, 0, 0, 0, 0, -1, -1,
            0, 5, -1, -1, 0, -1, 0, 0, 0, 0, -1, 7, 1023, 0, 0, -1, -1, -1, -1, 0, 0, 0));
        WellTalk lost = Due.village("", "b0wgh");
        Due.due("digest() of one saying", lost.digest(), folded(0, 1, 0, 5, 0, 1, 0, 0, -1, -1,
            1, 0, 1, 2, 6, 7, -1, -1,
            -1, 2, 6, 7, 0, -1, 0, -1, -1, 0, -1, 0, -1, -1, 0, -1, 0, -1, -1, 0,
            -1, -1, 3, 0, 1, 1, -1, -1, 0, 1, 0, 1, 0));
        WellTalk x2 = Due.village("g9;c5;g1", "a0iab;b1wc");
        long before = x2.digest();
        Due.due("digest() again", x2.digest(), before);
        Due.due("digest() leaves the events", x2.count(4), 0);
        Due.due("digest() leaves the findings", x2.count(8), 0);
    }

    public static void main(String[] args) {
        making();
        losing();
        laying();
        getting();
        copying();
        writing();
        counting();
        digests();
        Due.end();
    }
}
