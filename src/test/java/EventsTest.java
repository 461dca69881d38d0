/** Promises 8 to 10: events one by one, undone, and read from a sheet. */
public final class EventsTest {
    private static void adding() {
        WellTalk x = new WellTalk();
        int[][] wrong = {{-1, 0, 0}, {3, 0, 0}, {0, -1, 0}, {0, 40, 0}, {0, 0, -1}, {0, 0, 8}};
        for (int[] w : wrong) {
            Due.due("event(" + w[0] + ", " + w[1] + ", " + w[2] + ")", x.event(w[0], w[1], w[2]), -2);
        }
        Due.due("count(4)", x.count(4), 0);
        Due.due("event(0, 0, 0)", x.event(0, 0, 0), 1);
        Due.due("event(2, 39, 7)", x.event(2, 39, 7), 2);
        for (int e = 3; e <= 8; e++) {
            Due.due("event(1, 0, 0)", x.event(1, 0, 0), e);
        }
        Due.due("event of a ninth", x.event(0, 0, 0), -4);
        Due.due("a wrong one of a ninth", x.event(3, 0, 0), -2);
        Due.due("count(4)", x.count(4), 8);
    }

    private static void undoing() {
        WellTalk x = Due.village("g9;g5;g0", "a0ia");
        Due.due("back()", x.back(), -3);
        Due.events(x, 1, 1, 1, 1, 2, 2);
        Due.due("at(1, 0, 0)", x.at(1, 0, 0), 2);
        Due.due("back()", x.back(), 1);
        Due.due("at(1, 0, 0), well 1 is covered", x.at(1, 0, 0), 2);
        Due.due("back()", x.back(), 0);
        Due.due("at(1, 0, 0)", x.at(1, 0, 0), 1);
        Due.due("back()", x.back(), -3);
        Due.events(x, 1, 0, 0);
        Due.due("gone()", x.gone(), 1);
    }

    private static void lay(WellTalk x, int s, int form, int... v) {
        Due.due("sheet", x.sheet(s, form, v.length), v.length);
        for (int i = 0; i < v.length; i++) {
            Due.due("lay", x.lay(s, form, i, v[i]), 1);
        }
    }

    private static void reading() {
        WellTalk x = Due.village("g9;g5;g0", "a0ia");
        Due.due("read(-1)", x.read(-1), -2);
        Due.due("read(4)", x.read(4), -2);
        Due.due("count(8)", x.count(8), 0);
        Due.due("read(3)", x.read(3), -11);
        Due.due("count(8)", x.count(8), 1);
        lay(x, 0, 0);
        Due.due("read of no items", x.read(0), 0);
        lay(x, 0, 1, 1, 1);
        Due.due("read of two items", x.read(0), 0);
        lay(x, 0, 2, 1, 1, 1, 0, 3, 2, 2, 2);
        Due.due("at(1, 0, 0) ahead", x.at(1, 0, 0), 1);
        Due.due("read of two and a bit", x.read(0), 2);
        Due.due("count(4)", x.count(4), 2);
        Due.due("at(1, 0, 0)", x.at(1, 0, 0), 2);
        Due.due("at(3, 0, 0), up past the lid", x.at(3, 0, 0), 0);
        Due.due("read again, behind", x.read(0), 2);
        lay(x, 1, 0, 0, 0, 0, 0, 40, 0, 0, 0, 0);
        Due.due("read up to what may not be", x.read(1), 1);
        Due.due("count(4)", x.count(4), 5);
        lay(x, 2, 0, 2, 39, 7, 2, 39, 7, 2, 39, 7, 2, 39, 7, 2, 39, 7);
        Due.due("read as there is room", x.read(2), 3);
        Due.due("count(4)", x.count(4), 8);
        Due.due("read without room", x.read(2), 0);
        Due.due("the sheet stays", x.get(2, 0, 13), 39);
        Due.due("back()", x.back(), 7);
        Due.due("back()", x.back(), 6);
        Due.due("gone()", x.gone(), 0);
    }

    private static void firstWrong(int... v) {
        WellTalk x = new WellTalk();
        lay(x, 0, 2, v);
        Due.due("read of a wrong one", x.read(0), 0);
        Due.due("count(4)", x.count(4), 0);
        Due.due("count(8)", x.count(8), 0);
    }

    public static void main(String[] args) {
        adding();
        undoing();
        reading();
        firstWrong(-1, 0, 0);
        firstWrong(3, 0, 0);
        firstWrong(0, -1, 0);
        firstWrong(0, 40, 0);
        firstWrong(0, 0, -1);
        firstWrong(0, 0, 8, 0, 0, 0);
        Due.end();
    }
}
