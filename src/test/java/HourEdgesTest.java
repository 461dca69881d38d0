/** The edges that the document names of its part 2: where SAYINGS are, who hears what; promises 11 to 15. */
public final class HourEdgesTest {
    private static final int COIN = 0, LID = 1, DROUGHT = 2;
    private static final String EIGHT_SAID = "a0ia;a0ia;a0ia;a0ia;a0ia;a0ia;a0ia;a0ia";

    private static void at() {
        Due.says("HOURS are 0 to 39.");
        Due.calls(Due.village("g5", "a0ia"), "at(0, 0, 0) = 0", "at(39, 0, 0) = 0", "at(40, 0, 0) = BAD", "at(-1, 0, 0) = BAD",
            "event(0, 39, 0) = 1", "event(0, 40, 0) = BAD", "event(0, -1, 0) = BAD", "draw(39, 0, 1) = 1", "draw(40, 0, 1) = BAD");
        Due.says("The WELL (what = 0; NONE), letters left (1), the first (2; NONE), the last (3; NONE), "
            + "whether HEARD in it (4: 1, 0). BAD.");
        WellTalk x = Due.village("g9;g5", "a0iab;x1wcd");
        Due.calls(x, "at(-1, 0, 0) = BAD", "at(40, 0, 0) = BAD", "at(MIN, 0, 0) = BAD", "at(MAX, 0, 0) = BAD");
        Due.calls(x, "at(0, -1, 0) = BAD", "at(0, 2, 0) = BAD", "at(0, MIN, 0) = BAD", "at(0, MAX, 0) = BAD");
        Due.calls(x, "at(0, 0, -1) = BAD", "at(0, 0, 5) = BAD", "at(0, 0, MIN) = BAD", "at(0, 0, MAX) = BAD");
        Due.calls(x, "at(0, 0, *) = 0 2 0 1 0", "at(1, 0, *) = 1 2 0 1 1", "at(39, 0, *) = 1 2 0 1 0", "at(39, 1, *) = 1 2 2 3 0");
        Due.says("Behind an HOUR of a SAYING: the WELL in which it is (NONE: not said yet, LOST); how many letters are left "
            + "(0: LOST; all of them, if not said yet); the first of these, the last (NONE: LOST); "
            + "whether it is HEARD in that HOUR.");
        WellTalk y = Due.village("g9;c5", "c0wabcd;c7wefgh;c0ic");
        Due.calls(y, "at(0, 0, *) = NONE 4 0 3 0", "at(1, 0, *) = NONE 4 0 3 0", "at(2, 0, *) = 0 4 0 3 0", "at(3, 0, *) = 1 3 0 2 1");
        Due.calls(y, "at(1, 1, *) = NONE 4 4 7 0", "at(2, 1, *) = NONE 0 NONE NONE 0", "at(39, 1, *) = NONE 0 NONE NONE 0");
        Due.calls(y, "at(1, 2, *) = NONE 1 2 2 0", "at(2, 2, *) = 0 1 2 2 0", "at(3, 2, *) = NONE 0 NONE NONE 0");
        WellTalk last = Due.onlyInTheLastHour("x0ih;x0wa");
        Due.calls(last, "at(39, 0, *) = 0 1 7 7 0", "event(0, 39, 0) = 6", "at(38, 0, *) = 0 1 7 7 0", "at(39, 0, *) = 1 1 7 7 1");
        Due.calls(last, "back() = 5", "event(0, 38, 0) = 6", "at(37, 0, *) = 0 1 7 7 0", "at(38, 0, *) = NONE 0 NONE NONE 0");
        WellTalk eight = Due.village(Due.EIGHT_DOWN, EIGHT_SAID.substring(0, 35) + "a7ih");
        Due.calls(eight, "at(5, 7, *) = 7 1 7 7 0", "at(7, 6, *) = 7 1 0 0 1", "at(7, 8, 0) = BAD");
    }

    private static void hears() {
        Due.says("HEARS, as bits. BAD.");
        WellTalk two = Due.village("g9;g5", "a0ia");
        Due.calls(two, "hears(*) = 0 1 BAD", "hears(-1) = BAD", "hears(7) = BAD", "hears(MIN) = BAD", "hears(MAX) = BAD");
        Due.says("HEARS of a WELL: SAYINGS that are ever HEARD there, as bits.");
        WellTalk x = Due.village(Due.EIGHT_DOWN, "a0ia;a1ia;a2ia;a3ia;a4ia;a5ia;a6ia;a7ia");
        Due.calls(x, "hears(*) = 0 1 3 7 15 31 63 127 BAD", "hears(-1) = BAD", "hears(MIN) = BAD", "hears(MAX) = BAD");
        Due.calls(x, "event(0, 39, 7) = 1", "hears(*) = 0 1 3 7 15 31 255 127", "event(0, 1, 7) = 2", "hears(7) = 255");
        Due.calls(Due.onlyInTheLastHour("x0ia"), "hears(*) = 0 0 BAD", "event(0, 39, 0) = 6", "hears(*) = 0 1");
        Due.calls(Due.village("g9;g5;c1", "a0ia;a0iab"), "hears(*) = 0 3 2", "undo(0) = 7", "hears(0) = BAD");
        Due.calls(Due.village("g9;g5", ""), "hears(*) = 0 0 BAD");
    }

    private static void soon() {
        Due.says("SOON; NONE. BAD.");
        WellTalk two = Due.village("g9;g5", "a0ia");
        Due.calls(two, "soon(*) = NONE 1 BAD", "soon(-1) = BAD", "soon(7) = BAD", "soon(MIN) = BAD", "soon(MAX) = BAD");
        Due.says("SOON of a WELL: the first HOUR in which any is; NONE.");
        WellTalk x = Due.village("g9;g5;g0", "d0ia;b0ia;c0ia");
        Due.calls(x, "soon(*) = NONE 2 3 BAD", "soon(-1) = BAD", "soon(MIN) = BAD", "soon(MAX) = BAD");
        Due.calls(Due.village("g9;g5", "a0ia"), "soon(1) = 1");
        Due.calls(Due.village("g9;g5", "x0ia"), "soon(1) = 24", "undo(1) = 3", "soon(1) = NONE");
        Due.calls(Due.village("g9;g5;g0", "a1ia;a0ia"), "soon(*) = NONE 1 1");
        Due.calls(Due.onlyInTheLastHour("x0ia"), "soon(1) = NONE", "event(0, 39, 0) = 6", "soon(1) = 39", "soon(0) = NONE");
        Due.calls(Due.village(Due.EIGHT_DOWN, EIGHT_SAID.substring(0, 35) + "a6ia"), "soon(*) = NONE 1 2 3 4 5 6 1");
        Due.calls(Due.village("g9;g5", "a1ia", COIN, 5, 1), "soon(*) = 5 6");
        Due.calls(Due.village("", "a0ia"), "soon(0) = BAD");
    }

    private static void gone() {
        Due.says("GONE, as bits.");
        Due.calls(new WellTalk(), "gone() = 0");
        for (int s = 0; s < 8; s++) {
            Due.calls(Due.village("g5", EIGHT_SAID.substring(0, 5 * s + 1) + "7" + EIGHT_SAID.substring(5 * s + 2)), "gone() = " + (1 << s));
        }
        Due.says("GONE: SAYINGS that are LOST behind HOUR 39, as bits.");
        Due.calls(Due.village("", EIGHT_SAID), "gone() = 255", "count(5) = 8");
        Due.calls(Due.village("g1", EIGHT_SAID), "gone() = 0", "count(5) = 0");
        Due.calls(Due.village("g1", EIGHT_SAID.substring(0, 35) + "a1ia"), "gone() = 128", "count(5) = 1");
        Due.calls(Due.village("g1", "x1ia;x0ia;a1ia"), "gone() = 5", "at(22, 0, 1) = 1");
        WellTalk last = Due.village("g9;g0", "a1ia", COIN, 39, 1, LID, 37, 0);
        Due.calls(last, "gone() = 1", "at(38, 0, 0) = 1", "at(39, 0, 1) = 0", "count(5) = 1");
        Due.calls(Due.village("g9;g0", "a1ia", COIN, 39, 1, LID, 36, 0), "gone() = 0");
        Due.calls(Due.village("g9;c0", "a1ia", COIN, 38, 1), "gone() = 1", "back() = 0", "gone() = 0", "count(5) = 0");
        Due.calls(Due.village("g9;g5;g0", "a0ia", DROUGHT, 1, 0), "gone() = 0", "event(1, 0, 2) = 2", "gone() = 1");
    }

    private static void babel() {
        Due.says("BABEL: the HOUR (what = 0), the WELL (1); NONE. BAD.");
        WellTalk two = Due.village("g9;g5", "c0ia;c0ia");
        Due.calls(two, "babel(*) = 3 1 BAD", "babel(-1) = BAD", "babel(MIN) = BAD", "babel(MAX) = BAD", "undo(1) = 8", "babel(0) = NONE");
        Due.says("BABEL: the first HOUR in which two or more are HEARD at one WELL; the least such WELL; NONE.");
        Due.calls(new WellTalk(), "babel(*) = NONE NONE BAD", "babel(-1) = BAD", "babel(MIN) = BAD", "babel(MAX) = BAD");
        Due.calls(Due.village("g9;g5", "a0ia"), "babel(*) = NONE NONE");
        Due.calls(Due.village("g1;g5", "a1ia"), "babel(*) = NONE NONE", "hears(0) = 1");
        Due.calls(Due.village("g9;g5", "a0ia;a0ia"), "babel(*) = 1 1");
        Due.calls(Due.village("g9;g5", "a0ia;a0ia;a0ia"), "babel(*) = 1 1");
        Due.calls(Due.village("g9;g5", "a0ia;b0ia"), "babel(*) = NONE NONE");
        Due.calls(Due.village("g9;g5;g1", "a0ia;a1ia"), "babel(*) = NONE NONE");
        Due.calls(Due.village("g9;g5;g1", "a1ia;a2ia"), "babel(*) = NONE NONE");
        Due.calls(Due.village("g9;g5;g1", "a1ia;a1ia;a0ia;a0ia"), "babel(*) = 1 1");
        Due.calls(Due.village("g1;g5;g9", "a1ia;a2ia;a2ia;a1ia"), "babel(*) = 1 0");
        Due.calls(Due.village("g1;g5;g9", "a2ia;a1ia;a1ia;a2ia"), "babel(*) = 1 0");
        Due.calls(Due.village("g9;g5;g1", "a0ia;a1ia;a0ia"), "babel(*) = 1 1");
        Due.calls(Due.village("g9;g5;g1", "a0ia;b1ia;x0ia;x0ia"), "babel(*) = 2 2");
        Due.calls(Due.village("g9;g5;g1", "b1ia;x0ia;x0ia;a0ia"), "babel(*) = 2 2");
        Due.calls(Due.village("g9;c5", "a0ia;a0ib"), "babel(*) = NONE NONE");
        Due.calls(Due.village("g9;c5", "a0ia;a0iab;a0iab"), "babel(*) = 1 1");
        Due.calls(Due.village("g9;g5", "x0ia;x0ia"), "babel(*) = 24 1");
        WellTalk last = Due.onlyInTheLastHour("x0ia;x0ib");
        Due.calls(last, "babel(*) = NONE NONE", "event(0, 39, 0) = 6", "babel(*) = 39 1");
        Due.calls(Due.village(Due.EIGHT_DOWN, "a6ia;a6ia"), "babel(*) = 1 7");
        Due.calls(Due.village(Due.EIGHT_DOWN, EIGHT_SAID, DROUGHT, 1, 3), "babel(*) = 1 7");
        Due.calls(Due.village(Due.EIGHT_DOWN, "a0ia;a1ia;a2ia;a3ia;a4ia;a5ia;a6ia;a6ia"), "babel(*) = 1 7");
        Due.calls(Due.village("g0;" + Due.EIGHT_DOWN.substring(3), "a1ia;a2ia", DROUGHT, 1, 0), "babel(*) = 1 0");
    }

    /** What is asked first behind a change is asked as things are then. */
    private static void firstBehindAChange() {
        Due.says("The last EVENT is undone: how many are left. NOT: there is none.");
        String[][] rows = {{"hears(1) = 3", "hears(1) = 0"}, {"soon(1) = 1", "soon(1) = NONE"}, {"gone() = 0", "gone() = 3"},
            {"babel(0) = 1", "babel(0) = NONE"}, {"at(1, 0, 0) = 1", "at(1, 0, 0) = NONE"}, {"tell(0, 1, 1) = 1", "tell(0, 1, 0) = NONE"},
            {"toss(1, 2) = 2", "toss(1, 2) = 0"}, {"open(1, NONE) = 0", "open(1, NONE) = 1"}, {"iron(1) = 0", "iron(1) = 2"},
            {"never() = 0", "never() = 1"}, {"stone(0, 0) = 7", "stone(0, 0) = 0"}, {"bucket(0) = 3", "bucket(0) = 0"},
            {"ask(1) = 1", "ask(1) = 0"}, {"chance(16, 0, 1, 0) = 1", "chance(16, 0, 1, 0) = 0"}, {"count(5) = 0", "count(5) = 2"},
            {"count(6) = 2", "count(6) = 0"}};
        for (String[] row : rows) {
            WellTalk x = Due.village("g9;g5", "a0ia;a0ia");
            Due.calls(x, "draw(0, 0, 1) = 1", row[0], "event(1, 0, 0) = 1", row[1], "back() = 0", row[0]);
            Due.calls(x, "sheet(0, 0, 3) = 3", "lay(0, 0, 0, 1) = 1", "read(0) = 1", row[1], "back() = 0", row[0]);
            Due.calls(x, "wipe(0) = 5");
            Due.type(x, 0, "g9;g5");
            Due.calls(x, row[0], "undo(1) = 8", "undo(1) = 7");
            Due.type(x, 1, "ia");
            Due.calls(x, row[0]);
        }
    }

    public static void main(String[] args) {
        at();
        hears();
        soon();
        gone();
        babel();
        firstBehindAChange();
        Due.end();
    }
}
