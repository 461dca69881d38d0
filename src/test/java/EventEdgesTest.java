/** The edges that the document names of EVENTS: its head on them, promises 8 to 10. */
public final class EventEdgesTest {
    private static final int BYTES = 0, SHORTS = 1, INTS = 2;

    private static void adding() {
        Due.says("An EVENT more: how many. BAD; FULL.");
        WellTalk x = new WellTalk();
        Due.calls(x, "event(-1, 0, 0) = BAD", "event(3, 0, 0) = BAD", "event(MIN, 0, 0) = BAD", "event(MAX, 0, 0) = BAD");
        Due.calls(x, "event(0, -1, 0) = BAD", "event(0, 40, 0) = BAD", "event(0, MIN, 0) = BAD", "event(0, MAX, 0) = BAD");
        Due.calls(x, "event(0, 0, -1) = BAD", "event(0, 0, 8) = BAD", "event(0, 0, MIN) = BAD", "event(0, 0, MAX) = BAD");
        Due.calls(x, "count(4) = 0", "back() = NOT");
        Due.says("EVENTS, 8 at most (0 on): a kind, an HOUR, a WELL (0 to 7): "
            + "0 a COIN, 1 a LID, 2 a DROUGHT (whichever WELL is told).");
        Due.calls(x, "event(0, 0, 0) = 1", "event(2, 39, 7) = 2", "event(1, 0, 7) = 3", "event(0, 39, 0) = 4");
        Due.calls(x, "event(0, 39, 0) = 5", "event(1, 20, 3) = 6", "event(2, 0, 0) = 7", "count(4) = 7");
        Due.calls(x, "event(3, 0, 0) = BAD", "event(1, 1, 1) = 8", "event(1, 1, 1) = FULL", "event(0, 0, 0) = FULL");
        Due.calls(x, "event(3, 0, 0) = BAD", "event(0, 40, 0) = BAD", "event(0, 0, 8) = BAD", "count(4) = 8", "never() = 255");
        Due.calls(x, "back() = 7", "event(2, 5, 5) = 8", "event(2, 5, 5) = FULL", "count(4) = 8");
    }

    private static void eachOfTheEight() {
        Due.says("EVENTS, 8 at most (0 on): a kind, an HOUR, a WELL (0 to 7): "
            + "0 a COIN, 1 a LID, 2 a DROUGHT (whichever WELL is told).");
        for (int last = 0; last < 8; last++) {
            WellTalk x = Due.village("g9;g5;g1", "a0ia");
            for (int e = 0; e < 8; e++) {
                Due.calls(x, "event(" + (e == last ? "0, 1, 0" : "0, 30, 7") + ") = " + (e + 1));
            }
            Due.calls(x, "at(*, 0, 0) = 0 0 1 2", "never() = 255");
        }
        for (int well = 0; well < 8; well++) {
            WellTalk x = Due.village("g9;s5;g1", "a0ia", 2, 2, well);
            Due.calls(x, "at(*, 0, 0) = 0 1 2 2", "soon(2) = 2");
        }
    }

    private static void ofWellsThatAreNot() {
        Due.says("EVENTS, 8 at most (0 on): a kind, an HOUR, a WELL (0 to 7)");
        WellTalk x = Due.village("g9;g5", "a0ia", 0, 2, 2, 1, 1, 3, 0, 4, 7);
        Due.calls(x, "at(*, 0, 0) = 0 1 1 1 1", "hears(1) = 1", "gone() = 0", "never() = 7");
        Due.type(x, 0, ";g1;g3");
        Due.calls(x, "at(*, 0, 0) = 0 1 2 2 2", "undo(0) = 10", "undo(0) = 9", "undo(0) = 8", "at(*, 0, 0) = 0 1 2 2");
        WellTalk none = new WellTalk();
        Due.calls(none, "event(0, 1, 0) = 1", "event(1, 1, 7) = 2", "event(2, 1, 7) = 3", "gone() = 0", "count(6) = 0");
    }

    private static void theBack() {
        Due.says("The last EVENT is undone: how many are left. NOT: there is none.");
        WellTalk x = Due.village("g9;g5;g1", "a0ia");
        Due.calls(x, "back() = NOT", "event(0, 1, 0) = 1", "event(1, 0, 0) = 2", "gone() = 1", "back() = 1");
        Due.calls(x, "gone() = 0", "at(*, 0, 0) = 0 0 1 2", "back() = 0", "at(*, 0, 0) = 0 1 2", "back() = NOT", "back() = NOT");
        Due.calls(x, "count(4) = 0", "event(1, 0, 0) = 1", "at(0, 0, 1) = 0");
        WellTalk full = Due.village("g9;g1", "a0ia", 1, 0, 0, 2, 1, 1, 2, 1, 1, 2, 1, 1, 2, 1, 1, 2, 1, 1, 2, 1, 1, 2, 1, 1);
        Due.calls(full, "event(0, 0, 0) = FULL", "back() = 7", "back() = 6", "back() = 5", "back() = 4", "back() = 3");
        Due.calls(full, "back() = 2", "back() = 1", "gone() = 1", "back() = 0", "gone() = 0", "back() = NOT");
    }

    private static void sheet(WellTalk x, int form, int... v) {
        Due.calls(x, "sheet(0, " + form + ", " + v.length + ") = " + v.length);
        for (int i = 0; i < v.length; i++) {
            Due.calls(x, "lay(0, " + form + ", " + i + ", " + v[i] + ") = 1");
        }
    }

    private static void refusedReads() {
        Due.says("EVENTS more, from a SHEET: its items, three for each, as many as are whole, "
            + "as long as each may be and there is room: how many came. BAD; NULL.");
        WellTalk x = new WellTalk();
        Due.calls(x, "read(-1) = BAD", "read(4) = BAD", "read(MIN) = BAD", "read(MAX) = BAD", "count(8) = 0");
        Due.calls(x, "read(0) = NULL", "count(8) = 1", "sheet(1, 0, -1) = SIZE", "read(1) = NULL", "count(8) = 1");
        Due.calls(x, "read(3) = NULL", "count(4) = 0", "sheet(3, 0, 3) = 3", "read(3) = 1", "lose(3) = 3", "read(3) = NULL");
        Due.calls(x, "count(4) = 1", "count(8) = 1");
    }

    private static void asManyAsAreWhole() {
        Due.says("as many as are whole");
        for (int n = 0; n <= 26; n++) {
            WellTalk x = new WellTalk();
            Due.calls(x, "sheet(2, 0, " + n + ") = " + n, "read(2) = " + Math.min(8, n / 3), "count(4) = " + Math.min(8, n / 3));
        }
        WellTalk x = Due.village("g9;g5;g1", "a0ia");
        sheet(x, BYTES, 1, 1, 1, 0, 3);
        Due.calls(x, "read(0) = 1", "count(4) = 1", "at(*, 0, 0) = 0 2 2", "count(8) = 0", "get(0, 0, 4) = 3");
        WellTalk most = new WellTalk();
        Due.calls(most, "sheet(0, 2, 60) = 60", "read(0) = 8", "read(0) = 0", "count(4) = 8", "count(8) = 0");
    }

    private static void asLongAsEachMayBe() {
        Due.says("as long as each may be and there is room");
        int[][] wrong = {{-1, 0, 0}, {3, 0, 0}, {0, -1, 0}, {0, 40, 0}, {0, 0, -1}, {0, 0, 8}, {256, 0, 0}, {0, 256, 0},
            {0, 0, 256}, {65536, 0, 0}, {Integer.MIN_VALUE, 0, 0}, {0, Integer.MAX_VALUE, 0}, {0, 0, Integer.MIN_VALUE}};
        for (int[] w : wrong) {
            WellTalk first = new WellTalk();
            sheet(first, INTS, w[0], w[1], w[2], 0, 0, 0);
            Due.calls(first, "read(0) = 0", "count(4) = 0", "count(8) = 0", "back() = NOT");
            WellTalk second = new WellTalk();
            sheet(second, INTS, 2, 39, 7, w[0], w[1], w[2], 0, 0, 0);
            Due.calls(second, "read(0) = 1", "count(4) = 1", "read(0) = 1", "count(4) = 2", "count(8) = 0");
        }
        WellTalk cut = new WellTalk();
        sheet(cut, BYTES, 256, 256, 256);
        Due.calls(cut, "read(0) = 1", "count(4) = 1");
        sheet(cut, SHORTS, 65538, 65575, 65543);
        Due.calls(cut, "read(0) = 1", "count(4) = 2");
        sheet(cut, SHORTS, 65539, 0, 0);
        Due.calls(cut, "read(0) = 0", "count(4) = 2");
    }

    private static void asLongAsThereIsRoom() {
        Due.says("as long as each may be and there is room");
        WellTalk x = Due.village("g9;g5;g1", "a0ia");
        Due.events(x, 2, 39, 0, 2, 39, 0, 2, 39, 0, 2, 39, 0, 2, 39, 0, 2, 39, 0);
        sheet(x, SHORTS, 0, 1, 0, 2, 2, 2, 1, 0, 0);
        Due.calls(x, "read(0) = 2", "count(4) = 8", "at(*, 0, 0) = 0 0 2 2", "gone() = 0", "read(0) = 0", "event(0, 0, 0) = FULL");
        Due.calls(x, "back() = 7", "at(*, 0, 0) = 0 0 1 2", "back() = 6", "at(*, 0, 0) = 0 1 2 2");
        Due.calls(x, "back() = 5", "read(0) = 3", "gone() = 1", "count(4) = 8");
        sheet(x, SHORTS, 3, 0, 0);
        Due.calls(x, "read(0) = 0", "read(-1) = BAD", "read(1) = NULL", "count(4) = 8");
    }

    public static void main(String[] args) {
        adding();
        eachOfTheEight();
        ofWellsThatAreNot();
        theBack();
        refusedReads();
        asManyAsAreWhole();
        asLongAsEachMayBe();
        asLongAsThereIsRoom();
        Due.end();
    }
}
