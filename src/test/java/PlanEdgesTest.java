/** The edges that the document names of its part 3: TELL, THROW, OPEN, IRON; promises 16 to 19. */
public final class PlanEdgesTest {
    private static final int COIN = 0, LID = 1, DROUGHT = 2;
    private static final String SEVEN_SAID = "a0ib;a0ib;a0ib;a0ib;a0ib;a0ib;a0ib";

    private static void refusedTells() {
        Due.says("TELL: which (what = 0), the HOUR (1); NONE. BAD.");
        WellTalk x = Due.village("g9;g5", "a0ia;a0ia");
        Due.calls(x, "tell(-1, 1, 0) = BAD", "tell(2, 1, 0) = BAD", "tell(MIN, 1, 0) = BAD", "tell(MAX, 1, 0) = BAD");
        Due.calls(x, "tell(0, -1, 0) = BAD", "tell(0, 8, 0) = BAD", "tell(0, MIN, 0) = BAD", "tell(0, MAX, 0) = BAD");
        Due.calls(x, "tell(0, 1, -1) = BAD", "tell(0, 1, 2) = BAD", "tell(0, 1, MIN) = BAD", "tell(0, 1, MAX) = BAD");
        Due.calls(x, "tell(1, 1, *) = 0 1", "tell(1, 7, *) = NONE NONE", "tell(1, 2, *) = NONE NONE");
        Due.calls(Due.village("g9;g5", ""), "tell(0, 1, 0) = BAD");
        Due.calls(Due.village("", "a0ia"), "tell(0, 0, *) = NONE NONE", "tell(0, 7, *) = NONE NONE", "tell(0, 8, 0) = BAD");
    }

    private static void telling() {
        Due.says("TELL of a SAYING for a WELL (0 to 7): the WELL (that there is) over which it had better be said, "
            + "in place of its own, so that it is HEARD there soonest, of like ones the least: which; in which HOUR; NONE: by none.");
        Due.calls(Due.village("g9;g5;g1", "c0ia;c7ia"), "tell(0, 0, *) = NONE NONE", "tell(0, 1, *) = 0 3", "tell(0, 2, *) = 1 3",
            "tell(1, 1, *) = 0 3", "tell(1, 2, *) = 1 3", "gone() = 2", "saying(1, 1) = 7");
        Due.calls(Due.village("g9;g9;g5", "a1ia"), "tell(0, 2, *) = 0 1");
        Due.calls(Due.village("s9;g9;g8;g5", "a0ia"), "tell(0, 2, *) = 1 1", "tell(0, 3, *) = 2 1");
        Due.calls(Due.village("s9;s8;g5", "a0ia"), "tell(0, 1, *) = 0 2", "tell(0, 2, *) = 1 2");
        Due.calls(Due.village("g9;g8;g7", "a0wa"), "tell(0, 2, *) = 1 1");
        Due.calls(Due.village("g9;g8;g7", "c0wa;c0ia", LID, 0, 1), "tell(0, 2, *) = NONE NONE", "tell(1, 2, *) = 0 4");
        Due.calls(Due.village("g9;c8;g7", "a0ia"), "tell(0, 1, *) = NONE NONE", "tell(0, 2, *) = 1 1");
        Due.calls(Due.village("g9;c8;g7", "a0iab"), "tell(0, 1, *) = 0 1", "tell(0, 2, *) = 1 1");
        Due.calls(Due.village("g9;g5;g1", "a0ia", LID, 0, 1), "tell(0, 2, *) = 0 1", "tell(0, 1, *) = NONE NONE");
        Due.calls(Due.village("g9;g5;g1", "a0ia", LID, 0, 1, LID, 0, 0), "tell(0, 2, *) = NONE NONE");
        Due.calls(Due.village("g9;g5;g1", "a0ia", COIN, 3, 2), "tell(0, 1, *) = 0 1", "tell(0, 0, *) = NONE NONE");
        Due.calls(Due.village("g1;g5;g9", "a0ia", COIN, 2, 1), "tell(0, 2, *) = 2 2", "tell(0, 0, *) = 1 1");
        Due.calls(Due.village("g1;g5;g9", "a0ia", DROUGHT, 1, 0), "tell(0, 0, *) = 1 1", "tell(0, 1, *) = NONE NONE");
        Due.calls(Due.onlyInTheLastHour("x0ia"), "tell(0, 1, *) = NONE NONE", "event(0, 39, 0) = 6", "tell(0, 1, *) = 0 39");
        Due.calls(Due.village(Due.EIGHT_DOWN, "a0ia;a0ia;a0ia;a0ia;a0ia;a0ia;a0ia;x0ia"), "tell(7, 7, *) = 6 24", "tell(7, 1, *) = 0 24");
        Due.calls(Due.village("g2;" + Due.EIGHT_DOWN.substring(3, 20) + ";g9", "a0ia"), "tell(0, 1, *) = 7 1", "tell(0, 0, *) = 6 1");
    }

    private static void refusedTosses() {
        Due.says("THROW for a WELL (0 to 7): the HOUR (what = 0), the WELL (1), how many (2); NONE. BAD.");
        WellTalk x = Due.village("g9;g5", "a0ia");
        Due.calls(x, "toss(-1, 0) = BAD", "toss(8, 0) = BAD", "toss(MIN, 0) = BAD", "toss(MAX, 0) = BAD");
        Due.calls(x, "toss(1, -1) = BAD", "toss(1, 3) = BAD", "toss(1, MIN) = BAD", "toss(1, MAX) = BAD");
        Due.calls(x, "toss(1, *) = 0 0 1", "toss(2, *) = 0 0 0", "toss(7, *) = 0 0 0", "count(4) = 0");
        Due.calls(x, "undo(0) = 4", "toss(0, *) = NONE NONE NONE", "toss(7, *) = NONE NONE NONE", "toss(8, 0) = BAD");
        Due.calls(Due.village("g0", ""), "toss(0, *) = 0 0 0", "toss(7, *) = 0 0 0");
        Due.calls(Due.village("", "a0ia"), "toss(0, *) = NONE NONE NONE");
    }

    private static void tossing() {
        Due.says("THROW for a WELL: the COIN more, behind all others (whatever room), by which most SAYINGS are ever HEARD there, "
            + "of like ones the least HOUR, then the least WELL (that there is): the HOUR; the WELL; how many; "
            + "NONE: there are no WELLS.");
        Due.calls(Due.village("g9;g5;g0", "a1ia"), "toss(0, *) = 1 1 1", "toss(1, *) = 1 1 1", "toss(2, *) = 0 0 1");
        Due.calls(Due.village("g9;g5;g5;g0", "a1ia;a2ia"), "toss(0, *) = 1 1 1");
        Due.calls(Due.village("g9;g5;g5;g0", "a1ia;a2ia;a2ia"), "toss(0, *) = 1 2 2");
        Due.calls(Due.village("g9;g5;g5;g0", "a2ia;b1ia"), "toss(0, *) = 1 2 1");
        Due.calls(Due.village("g9;g5;g5;g0", "a1ia;b2ia;b2ia"), "toss(0, *) = 2 2 2");
        Due.calls(Due.village("g9;s5;g0", "a1ia"), "toss(0, *) = 2 1 1");
        Due.calls(Due.village("g9;g5;g0", "b0wa"), "toss(0, *) = 0 0 0", "undo(1) = 3", "type(1, 98) = 4", "type(1, 99) = 5", "toss(0, *) = 3 1 1");
        Due.calls(Due.village("g5;g0", "x1ia"), "toss(0, *) = 24 1 1", "toss(1, *) = 24 1 1");
        Due.calls(Due.village("g0;g5", "a0ia", LID, 1, 1), "toss(1, *) = 4 0 1");
        Due.calls(Due.village("g9;g5;g0", "a1ia", COIN, 1, 1), "toss(0, *) = 0 0 1", "toss(1, *) = 0 0 1");
        Due.calls(Due.onlyInTheLastHour("x0ia;x0ia"), "toss(1, *) = 39 0 2", "toss(0, *) = 0 0 0");
        Due.calls(Due.village(Due.EIGHT_DOWN, "a7ia;a7ia;a7ia;a7ia;a7ia;a7ia;a7ia;a7ia"), "toss(6, *) = 1 7 8", "toss(7, *) = 1 7 8",
            "toss(5, *) = 0 0 0");
    }

    /** Room or no room, the COIN is only thought of; it can also do harm. */
    private static void tossingWithoutRoom() {
        Due.says("THROW for a WELL: the COIN more, behind all others (whatever room)");
        WellTalk full = Due.village("g9;g5;g0", "a1ia");
        for (int e = 1; e <= 8; e++) {
            Due.calls(full, "toss(0, *) = 1 1 1", "event(2, 39, 0) = " + e);
        }
        Due.calls(full, "toss(0, *) = 1 1 1", "event(0, 1, 1) = FULL", "count(4) = 8", "hears(0) = 0", "never() = 255");
        Due.calls(Due.village("g9;g5;g1", "a2ia", COIN, 1, 2), "toss(0, *) = 2 1 1", "hears(1) = 1");
        Due.calls(Due.village("g9;g5;g0", "a0ia;a0ia", LID, 0, 2), "toss(2, *) = 1 0 2", "toss(1, *) = 0 0 2");
        Due.calls(Due.village("g9;g5;g0", "b1ia", LID, 2, 2), "gone() = 1", "toss(2, *) = 0 0 0", "toss(1, *) = 2 1 1");
        Due.calls(Due.village("g5;g9;g0", "a0ia;b0ia", LID, 2, 1), "toss(1, *) = 1 0 1", "toss(2, *) = 0 0 2");
        Due.calls(Due.village("g0;g5;g9", "a1ia;a2ia", DROUGHT, 1, 0), "toss(2, *) = 0 0 0", "toss(1, *) = 2 0 2",
            "event(0, 2, 0) = 2", "toss(2, *) = 3 1 2");
    }

    private static void refusedOpens() {
        Due.says("OPEN for a WELL (0 to 7): how many (i = NONE), the i-th (0, 1; NONE); NONE. BAD.");
        WellTalk x = Due.village("g9;g5", "a0ia");
        Due.calls(x, "open(-1, 0) = BAD", "open(8, 0) = BAD", "open(MIN, 0) = BAD", "open(MAX, 0) = BAD", "open(-1, NONE) = BAD");
        Due.calls(x, "open(1, -2) = BAD", "open(1, 2) = BAD", "open(1, MIN) = BAD", "open(1, MAX) = BAD", "open(8, NONE) = BAD");
        Due.calls(x, "open(1, NONE) = 0", "open(1, *) = NONE NONE BAD", "open(0, NONE) = NONE", "open(0, *) = NONE NONE BAD");
        Due.calls(x, "open(7, NONE) = NONE", "open(7, *) = NONE NONE BAD", "undo(1) = 3");
        Due.calls(x, "open(1, NONE) = 0", "open(7, NONE) = 0", "open(7, *) = NONE NONE BAD");
        Due.calls(new WellTalk(), "open(0, NONE) = 0", "open(7, NONE) = 0", "open(0, *) = NONE NONE BAD", "open(8, NONE) = BAD");
        Due.calls(Due.village("", "a0ia"), "open(0, NONE) = NONE", "open(0, *) = NONE NONE");
    }

    /** The 8 EVENTS are of no account, but those at the places told: these are LIDS in the way to well 1. */
    private static WellTalk lidsAt(int... places) {
        WellTalk x = Due.village("g9;g5", "a0ia");
        for (int e = 0; e < 8; e++) {
            boolean isLid = false;
            for (int place : places) {
                isLid |= place == e;
            }
            Due.calls(x, (isLid ? "event(1, 1, 1)" : e % 2 == 0 ? "event(0, 30, 0)" : "event(1, 30, 0)") + " = " + (e + 1));
        }
        return x;
    }

    private static void opening() {
        Due.says("OPEN for a WELL: the fewest LIDS, of all EVENTS, (0 to 2) that had better not be, "
            + "so that each SAYING is ever HEARD there, of like ones the least row (each more than the one ahead): "
            + "how many; the i-th EVENT; NONE.");
        Due.calls(lidsAt(), "open(1, NONE) = 0", "open(1, *) = NONE NONE", "open(0, NONE) = NONE");
        for (int e = 0; e < 8; e++) {
            Due.calls(lidsAt(e), "open(1, NONE) = 1", "open(1, *) = " + e + " NONE", "gone() = 1", "count(4) = 8");
            for (int f = e + 1; f < 8; f++) {
                Due.calls(lidsAt(e, f), "open(1, NONE) = 2", "open(1, *) = " + e + " " + f, "gone() = 1");
            }
        }
        Due.calls(lidsAt(0, 3, 7), "open(1, NONE) = NONE", "open(1, *) = NONE NONE");
        Due.calls(lidsAt(0, 1, 2, 3, 4, 5, 6, 7), "open(1, NONE) = NONE", "back() = 7", "open(1, NONE) = NONE");
    }

    /** One way to well 2 is open without P (both of them, where there are two), another one without R and Q. */
    private static void theLeastRow() {
        Due.says("of like ones the least row (each more than the one ahead)");
        int[] p = {LID, 2, 2};
        int[] q = {LID, 5, 2};
        int[] r = {LID, 4, 1};
        dueOpen(new int[][] {p, r, q, p}, 2, 0, 3);
        dueOpen(new int[][] {r, p, p, q}, 2, 0, 3);
        dueOpen(new int[][] {p, p, r, q}, 2, 0, 1);
        dueOpen(new int[][] {q, r, p, p}, 2, 0, 1);
        dueOpen(new int[][] {r, p, q, p}, 2, 0, 2);
        dueOpen(new int[][] {r, q, p}, 1, 2, -1);
        dueOpen(new int[][] {p, q, r}, 1, 0, -1);
        dueOpen(new int[][] {p, r}, 1, 0, -1);
        dueOpen(new int[][] {r, p}, 1, 0, -1);
        dueOpen(new int[][] {p, p, p, r, q}, 2, 3, 4);
        dueOpen(new int[][] {p, p, p, r, q, q}, -1, -1, -1);
    }

    private static void dueOpen(int[][] lids, int many, int first, int second) {
        WellTalk x = Due.village("g9;g5;g0", "d0ia");
        for (int[] lid : lids) {
            Due.events(x, lid);
        }
        Due.calls(x, "open(2, NONE) = " + many, "open(2, *) = " + first + " " + second);
    }

    private static void openingForEach() {
        Due.says("so that each SAYING is ever HEARD there");
        WellTalk x = Due.village("g9;g5;g0", "a0ia;d0ia", LID, 1, 1, LID, 4, 1, LID, 0, 0);
        Due.calls(x, "open(1, NONE) = NONE", "back() = 2", "open(1, NONE) = 2", "open(1, *) = 0 1", "back() = 1");
        Due.calls(x, "open(1, NONE) = 1", "open(1, *) = 0 NONE", "open(2, NONE) = 0", "back() = 0", "open(1, NONE) = 0");
        Due.says("the fewest LIDS, of all EVENTS, (0 to 2) that had better not be");
        Due.calls(Due.village("g9;g5;g0", "a0ia", DROUGHT, 1, 0), "open(1, NONE) = NONE", "open(2, NONE) = 0");
        Due.calls(Due.village("g9;g5;g0", "a0ia", DROUGHT, 1, 0, LID, 1, 1), "open(1, NONE) = NONE", "open(1, 0) = NONE");
        Due.calls(Due.village("g9;g5;g0", "a0ia", LID, 1, 1, DROUGHT, 1, 0), "open(1, NONE) = NONE", "open(1, 0) = NONE");
        Due.calls(Due.village("g9;g5;g0", "a1ia", COIN, 1, 1, LID, 0, 0), "open(0, NONE) = 1", "open(0, *) = 1 NONE", "gone() = 1");
        Due.calls(Due.village("g9;g5;g0", "a0ia;a7ia", LID, 1, 1), "open(1, NONE) = NONE", "open(2, NONE) = NONE");
        Due.calls(Due.village("g9;g5;g0", "a0wa", LID, 1, 0), "open(2, NONE) = NONE", "open(1, NONE) = 0");
        Due.calls(Due.village("g9;g5;g0", "a0wa", LID, 1, 1), "open(2, NONE) = 0", "open(1, NONE) = 1");
        Due.calls(Due.village("g9;g5;g0", "", LID, 0, 0), "open(0, NONE) = 0", "open(0, *) = NONE NONE");
        WellTalk last = Due.onlyInTheLastHour("x0ia");
        Due.calls(last, "event(0, 39, 0) = 6", "open(1, NONE) = 0", "event(1, 38, 1) = 7", "open(1, NONE) = 1", "open(1, *) = 6 NONE");
    }

    private static void ironing() {
        Due.says("IRON: which (what = 0), how many (1); NONE. BAD. (Also if it is no better than as it is.)");
        WellTalk none = Due.village("g9;g8;g7", "");
        Due.calls(none, "iron(*) = NONE NONE BAD", "iron(-1) = BAD", "iron(MIN) = BAD", "iron(MAX) = BAD");
        Due.calls(Due.village("g9;g8;g7", "a0ia"), "iron(*) = 0 0 BAD");
        Due.calls(Due.village("g9;g8;g7", "a3ia;a3wa"), "iron(*) = 0 2");
        Due.calls(Due.village("", "a0wa;a0wa;a0wa"), "iron(*) = 0 3");
        Due.says("IRON: the SAYING that had better have an iron bucket, so that fewest are GONE, of like ones the least: "
            + "which; how many; NONE: there are none.");
        Due.calls(Due.village("g9;g8;g7", "a0wa"), "gone() = 1", "iron(*) = 0 0", "gone() = 1", "saying(0, 2) = 1");
        Due.calls(Due.village("g9;g8;g7", "a0ia;a0wa;a0wa"), "iron(*) = 1 1", "bucket(1) = 3");
        Due.calls(Due.village("g9;g8;g7", "a0wab;a0ia;a3wa;a0wa"), "gone() = 12", "iron(*) = 3 1");
        Due.calls(Due.village("g9;g8;g7", SEVEN_SAID + ";a0wa"), "gone() = 128", "iron(*) = 7 0");
        Due.calls(Due.village("g9;g8;g7", "a0wa;a0wa;a0wa;a0wa;a0wa;a0wa;a0wa;a0wa"), "gone() = 255", "iron(*) = 0 7");
        Due.calls(Due.village("g9;g8;c7", "a0wa;a0wab;a0wabc"), "gone() = 3", "iron(*) = 1 1");
        Due.calls(Due.village("g9;g8;g7", "a0wa;a0wa", LID, 0, 0), "iron(*) = 0 2");
    }

    public static void main(String[] args) {
        refusedTells();
        telling();
        refusedTosses();
        tossing();
        tossingWithoutRoom();
        refusedOpens();
        opening();
        theLeastRow();
        openingForEach();
        ironing();
        Due.end();
    }
}
