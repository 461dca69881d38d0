/** The edges that the document names of SHEETS, FINDINGS, counts and the digest: its head on them, promises 28 to 35. */
public final class SheetEdgesTest {
    private static final int SHORTS = 1, INTS = 2;

    private static void sheets() {
        Due.says("A SHEET is a new row of a FORM with n items: n. BAD: SHEET, FORM, above 60; SIZE.");
        WellTalk x = new WellTalk();
        Due.calls(x, "sheet(-1, 0, 1) = BAD", "sheet(4, 0, 1) = BAD", "sheet(MIN, 0, 1) = BAD", "sheet(MAX, 0, 1) = BAD");
        Due.calls(x, "sheet(0, -1, 1) = BAD", "sheet(0, 3, 1) = BAD", "sheet(0, MIN, 1) = BAD", "sheet(0, MAX, 1) = BAD");
        Due.calls(x, "sheet(0, 0, 61) = BAD", "sheet(0, 0, MAX) = BAD", "sheet(4, 0, -1) = BAD", "sheet(0, 3, -1) = BAD");
        Due.calls(x, "sheet(-1, 0, MIN) = BAD", "sheet(0, -1, MIN) = BAD", "count(8) = 0", "lose(0) = NULL", "count(8) = 1");
        Due.calls(x, "sheet(0, 0, -1) = SIZE", "count(8) = 5", "lose(0) = NULL", "sheet(3, 2, MIN) = SIZE", "count(8) = 5");
        Due.says("SHEETS 0 .. 3 are LOST (at first) or a row of a FORM: 0 bytes, 1 shorts, 2 ints, of 0 to 60 items (0 at first).");
        for (int s = 0; s < 4; s++) {
            for (int form = 0; form < 3; form++) {
                String sheet = s + ", " + form;
                Due.calls(x, "sheet(" + sheet + ", 0) = 0", "get(" + sheet + ", 0) = MIN", "count(8) = 2", "lose(" + s + ") = 0");
                Due.calls(x, "sheet(" + sheet + ", 60) = 60", "get(" + sheet + ", 59) = 0", "lay(" + sheet + ", 59, -7) = 1");
                Due.calls(x, "get(" + sheet + ", 59) = -7", "get(" + sheet + ", 60) = MIN", "sheet(" + sheet + ", 61) = BAD");
                Due.calls(x, "get(" + sheet + ", 59) = -7", "sheet(" + sheet + ", -1) = SIZE", "get(" + sheet + ", 59) = -7");
                Due.calls(x, "sheet(" + sheet + ", 60) = 60", "get(" + sheet + ", 59) = 0", "lay(" + sheet + ", 0, 5) = 1");
                Due.calls(x, "sheet(" + sheet + ", 1) = 1", "get(" + sheet + ", 0) = 0", "get(" + sheet + ", 1) = MIN");
            }
        }
        Due.calls(x, "sheet(1, 2, 3) = 3", "lay(1, 2, 2, 9) = 1", "sheet(0, 2, 3) = 3", "get(1, 2, 2) = 9", "get(0, 2, 2) = 0");
    }

    private static void losing() {
        Due.says("It is LOST: how many items it had. BAD; NULL.");
        WellTalk x = new WellTalk();
        Due.calls(x, "lose(-1) = BAD", "lose(4) = BAD", "lose(MIN) = BAD", "lose(MAX) = BAD", "count(8) = 0", "lose(0) = NULL");
        Due.calls(x, "sheet(*, 2, 60) = 60 60 60 60", "lay(2, 2, 0, 7) = 1", "lose(3) = 60", "lose(3) = NULL", "lose(0) = 60");
        Due.calls(x, "sheet(3, 0, 0) = 0", "lose(3) = 0", "lose(3) = NULL", "get(2, 2, 0) = 7", "lose(2) = 60", "lose(2) = NULL");
        Due.calls(x, "sheet(2, 2, 1) = 1", "get(2, 2, 0) = 0", "lose(1) = 60", "lose(1) = NULL", "lose(2) = 1", "count(8) = 1");
    }

    private static void laying() {
        Due.says("Item i, treated as of a FORM, becomes v (the lowest bits that it has, with its sign): 1. BAD; NULL; CAST; INDEX.");
        WellTalk x = new WellTalk();
        Due.calls(x, "sheet(0, 0, 2) = 2", "sheet(1, 1, 2) = 2", "sheet(2, 2, 2) = 2");
        long[] v = {0, 1, -1, 127, 128, -128, -129, 255, 256, 257, 32767, 32768, -32768, -32769, 65535, 65536, 65537, 8388736,
            Integer.MAX_VALUE, Integer.MIN_VALUE, Integer.MIN_VALUE + 1};
        for (long one : v) {
            long asByte = one & 255;
            long asShort = one & 65535;
            Due.calls(x, "lay(0, 0, 1, " + one + ") = 1", "get(0, 0, 1) = " + (asByte > 127 ? asByte - 256 : asByte));
            Due.calls(x, "lay(1, 1, 0, " + one + ") = 1", "get(1, 1, 0) = " + (asShort > 32767 ? asShort - 65536 : asShort));
            Due.calls(x, "lay(2, 2, 1, " + one + ") = 1", "get(2, 2, 1) = " + one);
        }
        Due.calls(x, "get(0, 0, 0) = 0", "get(1, 1, 1) = 0", "get(2, 2, 0) = 0", "count(8) = 0");
        Due.says("FINDINGS (answers -10 less the number; they change nothing but count() 8): 1 NULL: the SHEET is LOST; "
            + "2 INDEX: there is no such item; 3 CAST: it has another FORM; 4 STORE: unlike FORMS; 5 SIZE: below 0.");
        Due.calls(x, "lay(-1, 0, 0, 1) = BAD", "lay(4, 0, 0, 1) = BAD", "lay(MIN, 0, 0, 1) = BAD", "lay(MAX, 0, 0, 1) = BAD");
        Due.calls(x, "lay(0, -1, 0, 1) = BAD", "lay(0, 3, 0, 1) = BAD", "lay(0, MIN, 0, 1) = BAD", "lay(0, MAX, 0, 1) = BAD");
        Due.calls(x, "lay(3, 3, 0, 1) = BAD", "lay(0, 3, 9, 1) = BAD", "lay(4, 1, 9, 1) = BAD", "count(8) = 0");
        Due.calls(x, "lay(3, 0, 0, 1) = NULL", "count(8) = 1", "lay(3, 0, -1, 1) = NULL", "lay(3, 2, 99, 1) = NULL");
        Due.calls(x, "lay(0, 1, 0, 1) = CAST", "count(8) = 3", "lay(0, 2, 0, 1) = CAST", "lay(1, 0, 0, 1) = CAST", "lay(1, 2, 0, 1) = CAST");
        Due.calls(x, "lay(2, 0, 0, 1) = CAST", "lay(2, 1, -1, 1) = CAST", "lay(2, 1, 2, 1) = CAST", "count(8) = 3");
        Due.calls(x, "lay(0, 0, -1, 1) = INDEX", "count(8) = 2", "lay(0, 0, 2, 1) = INDEX", "lay(1, 1, MIN, 1) = INDEX", "lay(2, 2, MAX, 1) = INDEX");
        Due.calls(x, "get(0, 0, 0) = 0", "get(1, 1, 1) = 0", "get(2, 2, 0) = 0", "count(8) = 2");
        Due.calls(x, "sheet(0, 0, 0) = 0", "lay(0, 0, 0, 1) = INDEX", "lay(0, 1, 0, 1) = CAST", "lose(0) = 0", "lay(0, 0, 0, 1) = NULL");
    }

    private static void getting() {
        Due.says("Item i of it. BAD: the least int; so are NULL, CAST, INDEX (count() 8 tells).");
        WellTalk x = new WellTalk();
        Due.calls(x, "sheet(0, 0, 2) = 2", "lay(0, 0, 1, 77) = 1", "sheet(2, 2, 1) = 1", "lay(2, 2, 0, MIN) = 1", "get(0, 0, 1) = 77");
        Due.calls(x, "get(2, 2, 0) = MIN", "count(8) = 0", "get(-1, 0, 0) = MIN", "get(4, 0, 0) = MIN", "get(0, -1, 0) = MIN");
        Due.calls(x, "get(0, 3, 0) = MIN", "get(MIN, 0, 0) = MIN", "get(0, MAX, 0) = MIN", "get(3, 3, 9) = MIN", "count(8) = 0");
        Due.calls(x, "get(3, 0, 0) = MIN", "count(8) = 1", "get(0, 1, 0) = MIN", "count(8) = 3", "get(0, 0, 2) = MIN", "count(8) = 2");
        Due.calls(x, "get(3, 1, 99) = MIN", "count(8) = 1", "get(0, 0, -1) = MIN", "count(8) = 2", "get(2, 1, 99) = MIN", "count(8) = 3");
        Due.calls(x, "get(0, 0, MAX) = MIN", "count(8) = 2", "get(2, 0, 0) = MIN", "count(8) = 3", "get(0, 0, MIN) = MIN", "count(8) = 2");
        Due.calls(x, "get(1, 0, MIN) = MIN", "count(8) = 1", "get(5, 0, 0) = MIN", "count(8) = 1", "get(0, 0, 1) = 77", "count(8) = 1");
    }

    private static void fill(WellTalk x, int s, int form, int... v) {
        Due.calls(x, "sheet(" + s + ", " + form + ", " + v.length + ") = " + v.length);
        for (int i = 0; i < v.length; i++) {
            Due.calls(x, "lay(" + s + ", " + form + ", " + i + ", " + v[i] + ") = 1");
        }
    }

    private static void copying() {
        Due.says("n items of SHEET s, from i on, come to SHEET t (perhaps s, as they were), from j on: 1.");
        for (int form = 0; form < 3; form++) {
            String of = ", " + form + ", *) = ";
            WellTalk x = new WellTalk();
            fill(x, 0, form, 1, 2, 3, 4, 5);
            fill(x, 3, form, 9, 8, 7);
            Due.calls(x, "copy(0, 2, 3, 0, 3) = 1", "get(3" + of + "3 4 5", "get(0" + of + "1 2 3 4 5");
            Due.calls(x, "copy(0, 0, 3, 2, 1) = 1", "get(3" + of + "3 4 1", "copy(3, 0, 0, 4, 1) = 1", "get(0" + of + "1 2 3 4 3");
            Due.calls(x, "copy(0, 0, 0, 1, 4) = 1", "get(0" + of + "1 1 2 3 4", "copy(0, 1, 0, 0, 4) = 1", "get(0" + of + "1 2 3 4 4");
            Due.calls(x, "copy(0, 0, 0, 2, 3) = 1", "get(0" + of + "1 2 1 2 3", "copy(0, 0, 0, 0, 5) = 1", "get(0" + of + "1 2 1 2 3");
            Due.calls(x, "copy(0, 1, 3, 1, 0) = 1", "copy(0, 5, 3, 3, 0) = 1", "copy(0, 5, 0, 5, 0) = 1", "get(3" + of + "3 4 1");
            Due.calls(x, "sheet(1, " + form + ", 0) = 0", "copy(1, 0, 1, 0, 0) = 1", "copy(1, 0, 0, 5, 0) = 1", "copy(0, 5, 1, 0, 0) = 1");
            Due.calls(x, "copy(1, 0, 0, 0, 1) = INDEX", "copy(0, 0, 1, 0, 1) = INDEX", "copy(1, 1, 0, 0, 0) = INDEX", "count(8) = 2");
            Due.calls(x, "sheet(1, " + form + ", 60) = 60", "sheet(2, " + form + ", 60) = 60", "lay(1, " + form + ", 59, 5) = 1");
            Due.calls(x, "copy(1, 0, 2, 0, 60) = 1", "get(2, " + form + ", 59) = 5", "copy(1, 0, 2, 0, 61) = INDEX");
        }
    }

    private static void refusedCopies() {
        Due.says("BAD: the SHEETS; NULL: s, t; STORE; INDEX: below 0, not so many "
            + "(with n 0, too, if i or j is above how many there are).");
        WellTalk x = new WellTalk();
        fill(x, 0, SHORTS, 1, 2, 3);
        fill(x, 1, SHORTS, 4, 5);
        fill(x, 2, INTS, 6, 7);
        Due.calls(x, "copy(-1, 0, 1, 0, 1) = BAD", "copy(4, 0, 1, 0, 1) = BAD", "copy(MIN, 0, 1, 0, 1) = BAD", "copy(MAX, 0, 1, 0, 1) = BAD");
        Due.calls(x, "copy(0, 0, -1, 0, 1) = BAD", "copy(0, 0, 4, 0, 1) = BAD", "copy(0, 0, MIN, 0, 1) = BAD", "copy(0, 0, MAX, 0, 1) = BAD");
        Due.calls(x, "copy(3, 0, 4, 0, 1) = BAD", "copy(-1, 0, 3, 0, -1) = BAD", "copy(4, -1, 2, -1, -1) = BAD", "count(8) = 0");
        Due.calls(x, "copy(3, 0, 0, 0, 1) = NULL", "count(8) = 1", "copy(0, 0, 3, 0, 1) = NULL", "copy(3, 0, 3, 0, 0) = NULL");
        Due.calls(x, "copy(3, -1, 0, 0, 1) = NULL", "copy(2, 9, 3, 9, 9) = NULL", "copy(3, 0, 2, 0, -1) = NULL", "count(8) = 1");
        Due.calls(x, "copy(0, 0, 2, 0, 1) = STORE", "count(8) = 4", "copy(2, 0, 1, 0, 0) = STORE", "copy(2, -1, 0, 9, -1) = STORE");
        Due.calls(x, "copy(0, -1, 1, 0, 1) = INDEX", "count(8) = 2", "copy(0, 0, 1, -1, 1) = INDEX", "copy(0, 0, 1, 0, -1) = INDEX");
        Due.calls(x, "copy(0, 3, 1, 0, 1) = INDEX", "copy(0, 2, 1, 0, 2) = INDEX", "copy(0, 0, 1, 1, 2) = INDEX", "copy(0, 0, 1, 0, 3) = INDEX");
        Due.calls(x, "copy(0, 4, 1, 0, 0) = INDEX", "copy(0, 0, 1, 3, 0) = INDEX", "copy(0, 3, 1, 2, 0) = 1", "copy(0, -1, 1, 0, 0) = INDEX");
        Due.calls(x, "copy(0, 0, 1, -1, 0) = INDEX", "copy(0, MAX, 1, 0, 1) = INDEX", "copy(0, 0, 1, MAX, 1) = INDEX", "copy(0, 1, 1, 1, MAX) = INDEX");
        Due.calls(x, "copy(0, MIN, 1, 0, 0) = INDEX", "copy(0, 0, 1, MIN, 0) = INDEX", "copy(0, 0, 1, 0, MIN) = INDEX", "copy(0, MAX, 1, MAX, MAX) = INDEX");
        Due.calls(x, "copy(0, MIN, 1, MIN, MIN) = INDEX", "copy(0, 1, 1, 0, MIN) = INDEX", "copy(1, 0, 1, 1, 2) = INDEX", "copy(1, 1, 1, 0, 2) = INDEX");
        Due.calls(x, "get(0, 1, *) = 1 2 3", "get(1, 1, *) = 4 5", "get(2, 2, *) = 6 7", "lose(0) = 3", "copy(0, 0, 1, 0, 1) = NULL");
    }

    private static void writing() {
        Due.says("In which WELL a SAYING is behind HOURS 0 on (NONE) comes to a SHEET (of each the lowest bits that an item has, "
            + "with its sign) from item 0 on, as many as there are items, 40 at most: how many. BAD; NULL.");
        WellTalk x = Due.village("g9;g0", "b0ia;x1ia;c7ib", 0, 39, 1);
        Due.calls(x, "write(-1, 0) = BAD", "write(3, 0) = BAD", "write(MIN, 0) = BAD", "write(MAX, 0) = BAD", "write(0, -1) = BAD");
        Due.calls(x, "write(0, 4) = BAD", "write(0, MIN) = BAD", "write(0, MAX) = BAD", "write(3, 4) = BAD", "count(8) = 0");
        Due.calls(x, "write(0, 0) = NULL", "count(8) = 1", "write(0, 3) = NULL", "write(3, 3) = BAD", "write(-1, 3) = BAD");
        for (int form = 0; form < 3; form++) {
            String of = "3, " + form + ", ";
            Due.calls(x, "sheet(" + of + "60) = 60", "lay(" + of + "40, 77) = 1", "lay(" + of + "39, 77) = 1", "write(0, 3) = 40");
            Due.calls(x, "get(" + of + "*) = NONE 0 1 1 1", "get(" + of + "38) = 1", "get(" + of + "39) = 0", "get(" + of + "40) = 77");
            Due.calls(x, "write(1, 3) = 40", "get(" + of + "22) = NONE", "get(" + of + "23) = 1", "write(2, 3) = 40", "get(" + of + "39) = NONE");
            Due.calls(x, "sheet(" + of + "0) = 0", "write(0, 3) = 0", "sheet(" + of + "1) = 1", "write(0, 3) = 1", "get(" + of + "0) = NONE");
            Due.calls(x, "sheet(" + of + "39) = 39", "write(0, 3) = 39", "get(" + of + "38) = 1", "sheet(" + of + "40) = 40", "write(0, 3) = 40");
            Due.calls(x, "sheet(" + of + "41) = 41", "write(0, 3) = 40", "get(" + of + "39) = 0", "get(" + of + "40) = 0");
        }
        Due.calls(x, "count(8) = 1", "write(2, 3) = 40", "wipe(1) = 14", "write(0, 3) = BAD");
        WellTalk eight = Due.village(Due.EIGHT_DOWN, "a0ia;a0ia;a0ia;a0ia;a0ia;a0ia;a0ia;a0ia");
        Due.calls(eight, "sheet(0, 0, 9) = 9", "write(7, 0) = 9", "get(0, 0, *) = 0 1 2 3 4 5 6 7 7", "write(8, 0) = BAD");
        WellTalk first = Due.village("g9;g5", "a0ia");
        Due.calls(first, "sheet(2, 1, 3) = 3", "write(0, 2) = 3", "get(2, 1, *) = 0 1 1", "event(1, 0, 0) = 1", "write(0, 2) = 3");
        Due.calls(first, "get(2, 1, *) = NONE NONE NONE");
    }

    private static void counting() {
        Due.says("0 WELLS, 1 SAYINGS, 2, 3 bytes of texts, 4 EVENTS, 5 how many are GONE, 6 how often any is HEARD anywhere, "
            + "7 DRAWN, 8 the number of the latest FINDING (0 before any). BAD.");
        WellTalk x = new WellTalk();
        Due.calls(x, "count(*) = 0 0 0 0 0 0 0 0 0 BAD", "count(-1) = BAD", "count(MIN) = BAD", "count(MAX) = BAD");
        WellTalk most = Due.village(Due.EIGHT_DOWN, "a0ia;a0ia;a0ia;a0ia;a0ia;a0ia;a0ia;a0ia", 1, 39, 0, 1, 39, 0, 1, 39, 0, 1, 39, 0,
            1, 39, 0, 1, 39, 0, 1, 39, 0, 1, 39, 0);
        for (int d = 1; d <= 8; d++) {
            Due.calls(most, "draw(0, 0, 0) = " + d);
        }
        Due.calls(most, "count(*) = 8 8 23 39 8 0 56 8 0 BAD", "sheet(0, 0, -1) = SIZE", "count(*) = 8 8 23 39 8 0 56 8 5 BAD");
        Due.calls(most, "back() = 7", "event(1, 0, 0) = 8", "count(*) = 8 8 23 39 8 8 0 8 5", "forget() = 8", "count(7) = 0");
        Due.calls(Due.village("g9;g5", "a0ia;x0ia;a1ia;a7ia", 0, 39, 1), "count(5) = 1", "count(6) = 5");
        Due.calls(Due.village("g0;g5", "x0ia", 0, 39, 0), "count(6) = 1", "soon(1) = 39");
        Due.calls(x, "lose(0) = NULL", "count(8) = 1", "sheet(0, 0, 1) = 1", "count(8) = 1", "lay(0, 0, 1, 1) = INDEX", "count(8) = 2");
        Due.calls(x, "lay(0, 1, 0, 1) = CAST", "count(8) = 3", "sheet(1, 1, 1) = 1", "copy(0, 0, 1, 0, 1) = STORE", "count(8) = 4");
        Due.calls(x, "sheet(2, 0, -1) = SIZE", "count(8) = 5", "type(2, 0) = BAD", "back() = NOT", "get(9, 0, 0) = MIN", "count(8) = 5");
        Due.calls(x, "read(2) = NULL", "count(8) = 1");
    }

    public static void main(String[] args) {
        sheets();
        losing();
        laying();
        getting();
        copying();
        refusedCopies();
        writing();
        counting();
        Due.end();
    }
}
