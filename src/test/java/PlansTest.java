/** Promises 16 to 19: where it had better be said, the coin, the lids, the iron. */
public final class PlansTest {
    private static void dueTell(WellTalk x, int saying, int well, int which, int hour) {
        Due.due("tell(" + saying + ", " + well + ", 0)", x.tell(saying, well, 0), which);
        Due.due("tell(" + saying + ", " + well + ", 1)", x.tell(saying, well, 1), hour);
    }

    private static void telling() {
        WellTalk x = Due.village("g9;g5;g0", "a0ia;d2wa;a7ia");
        dueTell(x, 0, 2, 1, 1);
        dueTell(x, 0, 1, 0, 1);
        dueTell(x, 0, 0, -1, -1);
        dueTell(x, 0, 7, -1, -1);
        dueTell(x, 1, 2, 1, 4);
        dueTell(x, 1, 1, 0, 4);
        dueTell(x, 2, 2, 1, 1);
        Due.events(x, 0, 1, 1, 0, 4, 1);
        dueTell(x, 0, 0, 1, 1);
        dueTell(x, 0, 2, 0, 2);
        dueTell(x, 1, 0, 1, 4);
        dueTell(x, 1, 2, -1, -1);
        int[][] wrong = {{-1, 0, 0}, {3, 0, 0}, {0, -1, 0}, {0, 8, 0}, {0, 0, -1}, {0, 0, 2}};
        for (int[] w : wrong) {
            Due.due("tell(" + w[0] + ", " + w[1] + ", " + w[2] + ")", x.tell(w[0], w[1], w[2]), -2);
        }
        Due.due("the saying stays as told", x.saying(1, 1), 2);
        WellTalk like = Due.village("g9;g5;g5;s7;g0", "a4ia");
        dueTell(like, 0, 4, 1, 1);
        dueTell(like, 0, 1, 3, 2);
        WellTalk wood = Due.village("g9;g8;g7", "a0wa");
        dueTell(wood, 0, 2, 1, 1);
        WellTalk chalk = Due.village("g9;c8;g7;g6", "a0iab;a0ia");
        dueTell(chalk, 0, 3, 2, 1);
        dueTell(chalk, 1, 2, 1, 1);
        dueTell(chalk, 1, 1, -1, -1);
        WellTalk none = Due.village("", "a0ia");
        dueTell(none, 0, 0, -1, -1);
    }

    private static void dueToss(WellTalk x, int well, int hour, int of, int many) {
        int[] want = {hour, of, many};
        for (int what = 0; what < 3; what++) {
            Due.due("toss(" + well + ", " + what + ")", x.toss(well, what), want[what]);
        }
    }

    private static void tossing() {
        WellTalk x = Due.village("g9;g5;g0", "a1ia;b2ia;d2ia");
        dueToss(x, 0, 1, 1, 1);
        dueToss(x, 1, 4, 2, 3);
        dueToss(x, 2, 4, 2, 3);
        dueToss(x, 7, 0, 0, 0);
        Due.events(x, 0, 4, 2);
        dueToss(x, 1, 0, 0, 3);
        dueToss(x, 0, 5, 1, 3);
        Due.due("toss(-1, 0)", x.toss(-1, 0), -2);
        Due.due("toss(8, 0)", x.toss(8, 0), -2);
        Due.due("toss(0, -1)", x.toss(0, -1), -2);
        Due.due("toss(0, 3)", x.toss(0, 3), -2);
        Due.events(x, 2, 39, 0, 2, 39, 0, 2, 39, 0, 2, 39, 0, 2, 39, 0, 2, 39, 0, 2, 39, 0);
        dueToss(x, 0, 5, 1, 3);
        Due.due("count(4)", x.count(4), 8);
        x.back();
        Due.events(x, 1, 1, 0);
        Due.due("gone() by a lid elsewhere", x.gone(), 0);
        WellTalk late = Due.village("g5;s0", "a0ia");
        dueToss(late, 0, 3, 1, 1);
        dueToss(late, 1, 0, 0, 1);
        WellTalk no = Due.village("", "a0ia");
        dueToss(no, 0, -1, -1, -1);
        dueToss(no, 7, -1, -1, -1);
        WellTalk silent = Due.village("g5;g0", "");
        dueToss(silent, 1, 0, 0, 0);
        silent.type(1, 'a');
        Due.type(silent, 1, "1ia");
        dueToss(silent, 0, 1, 1, 1);
        Due.type(silent, 0, ";g9");
        dueToss(silent, 2, 0, 0, 0);
        dueToss(silent, 0, 1, 1, 1);
        Due.events(silent, 1, 1, 0);
        dueToss(silent, 2, 1, 1, 1);
        silent.back();
        dueToss(silent, 2, 0, 0, 0);
    }

    /** A coin can do harm too: the least hour and well of those that do none. */
    private static void coinsThatHarm() {
        WellTalk x = Due.village("g5;g9;g0", "a0ia;a1ia");
        Due.events(x, 1, 1, 1);
        dueToss(x, 2, 0, 0, 2);
        dueToss(x, 0, 2, 2, 2);
        WellTalk alone = Due.village("g0", "a0ia");
        dueToss(alone, 0, 0, 0, 0);
        WellTalk early = Due.village("g9;g5;g0", "a0ia");
        Due.events(early, 1, 0, 2);
        dueToss(early, 2, 1, 0, 1);
    }

    private static void dueOpen(WellTalk x, int well, int many, int first, int second) {
        Due.due("open(" + well + ", -1)", x.open(well, -1), many);
        Due.due("open(" + well + ", 0)", x.open(well, 0), first);
        Due.due("open(" + well + ", 1)", x.open(well, 1), second);
    }

    private static void opening() {
        WellTalk x = Due.village("g9;g5;g0", "a0ia;a0wab");
        dueOpen(x, 2, 0, -1, -1);
        dueOpen(x, 0, -1, -1, -1);
        dueOpen(x, 7, -1, -1, -1);
        Due.events(x, 0, 20, 0, 1, 2, 2);
        dueOpen(x, 2, 1, 1, -1);
        dueOpen(x, 1, 0, -1, -1);
        Due.events(x, 2, 30, 0, 1, 0, 2, 1, 9, 0);
        dueOpen(x, 2, 2, 1, 3);
        Due.events(x, 1, 2, 2);
        dueOpen(x, 2, -1, -1, -1);
        x.back();
        dueOpen(x, 2, 2, 1, 3);
        Due.due("open(-1, 0)", x.open(-1, 0), -2);
        Due.due("open(8, 0)", x.open(8, 0), -2);
        Due.due("open(0, -2)", x.open(0, -2), -2);
        Due.due("open(0, 2)", x.open(0, 2), -2);
        Due.due("count(4)", x.count(4), 5);
        Due.due("the events stay", x.gone(), 3);
        WellTalk first = Due.village("g9;g5;g0", "a0ia");
        Due.events(first, 1, 2, 2, 0, 30, 0);
        dueOpen(first, 2, 1, 0, -1);
        WellTalk none = Due.village("g9", "");
        dueOpen(none, 0, 0, -1, -1);
        dueOpen(none, 7, 0, -1, -1);
    }

    private static void theLeastRow() {
        WellTalk either = Due.village("g9;g5;g0", "c0ia");
        Due.events(either, 1, 39, 0, 1, 3, 1, 1, 1, 2);
        Due.due("gone()", either.gone(), 1);
        dueOpen(either, 2, 1, 1, -1);
        WellTalk coin = Due.village("g9;g5;g0", "a1ia");
        Due.events(coin, 0, 1, 1);
        dueOpen(coin, 2, 0, -1, -1);
        Due.events(coin, 0, 2, 0, 1, 5, 1, 1, 1, 0);
        dueOpen(coin, 0, 1, 3, -1);
        WellTalk sayings = Due.village("g9;g5;g0", "a0ia;d0ia");
        Due.events(sayings, 1, 5, 2, 1, 30, 0, 1, 3, 0, 1, 2, 2);
        dueOpen(sayings, 2, -1, -1, -1);
        sayings.back();
        dueOpen(sayings, 2, 2, 0, 2);
    }

    private static void dueIron(WellTalk x, int which, int many) {
        Due.due("iron(0)", x.iron(0), which);
        Due.due("iron(1)", x.iron(1), many);
    }

    private static void ironing() {
        WellTalk x = Due.village("g9;g8;g7", "");
        dueIron(x, -1, -1);
        Due.due("iron(-1)", x.iron(-1), -2);
        Due.due("iron(2)", x.iron(2), -2);
        Due.retype(x, 1, "a0wab;a0wa;a0wa");
        Due.due("gone()", x.gone(), 6);
        dueIron(x, 1, 1);
        Due.retype(x, 1, "a0iab;a0wa");
        dueIron(x, 1, 0);
        Due.retype(x, 1, "a0iab;a0wab");
        dueIron(x, 0, 0);
        Due.retype(x, 1, "a7ib;a0iab;a7wb");
        dueIron(x, 0, 2);
        Due.retype(x, 1, "a0iab;a7wb;a0wb");
        dueIron(x, 2, 1);
        Due.due("the bucket stays as told", x.saying(2, 2), 1);
        Due.due("gone()", x.gone(), 6);
    }

    public static void main(String[] args) {
        telling();
        tossing();
        coinsThatHarm();
        opening();
        theLeastRow();
        ironing();
        Due.end();
    }
}
