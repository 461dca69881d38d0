/** The edges that the document names of the texts: its head on WELLS, SAYINGS and the FAULT, promises 1 to 7. */
public final class TextEdgesTest {
    private static final String EIGHT_WELLS = "g9;c8;s7;g6;c5;s4;g3;c0";
    private static final String EIGHT_LONG = "a0iabcd;b1wbcde;c2icdef;d3wdefg;e4iefgh;f5wfgha;w6ighab;x7whabc";
    private static final String EIGHT_SHORT = "a0ia;b1wb;c2ic;d3wd;e4ie;f5wf;g6ig;h7wh";

    private static WellTalk typed(int text, String s) {
        return text == 0 ? Due.village(s, "") : Due.village("", s);
    }

    /** Each call is the first one of its object. */
    private static void aNewObject() {
        Due.says("No WELLS, no SAYINGS, no EVENTS; all SHEETS are LOST.");
        String[] rows = {"count(0) = 0", "count(1) = 0", "count(2) = 0", "count(3) = 0", "count(4) = 0", "count(5) = 0",
            "count(6) = 0", "count(7) = 0", "count(8) = 0", "fault(*) = NONE NONE", "wipe(*) = 0 0", "undo(*) = NOT NOT",
            "back() = NOT", "read(0) = NULL", "read(3) = NULL", "well(0, 0) = BAD", "saying(0, 0) = BAD",
            "at(0, 0, 0) = BAD", "hears(0) = BAD", "soon(0) = BAD", "gone() = 0", "babel(0) = NONE", "babel(1) = NONE",
            "tell(0, 0, 0) = BAD", "toss(0, *) = NONE NONE NONE", "toss(7, *) = NONE NONE NONE", "open(0, NONE) = 0",
            "open(0, 0) = NONE", "open(7, 1) = NONE", "iron(0) = NONE", "iron(1) = NONE", "forget() = 0", "never() = 0",
            "stone(0, 0) = BAD", "bucket(0) = BAD", "ask(0) = BAD", "chance(0, 0, 0, 0) = LEAST", "day(1, 8, 0) = 0",
            "day(1, 8, 1) = 0", "lose(*) = NULL NULL NULL NULL", "lay(0, 0, 0, 0) = NULL", "get(0, 0, 0) = MIN",
            "copy(0, 0, 0, 0, 0) = NULL", "copy(3, 0, 2, 0, 0) = NULL", "write(0, 0) = BAD"};
        for (String row : rows) {
            Due.calls(new WellTalk(), row);
        }
        for (int s = 0; s < 4; s++) {
            WellTalk x = new WellTalk();
            Due.calls(x, "get(" + s + ", 0, 0) = MIN", "count(8) = 1");
        }
    }

    private static void theLastCallThatCounts() {
        Due.says("An object is used for at most 512 calls after it has been made; what later calls answer is free.");
        WellTalk x = new WellTalk();
        for (int k = 0; k < 255; k++) {
            Due.calls(x, "type(0, 103) = 1", "undo(0) = 0");
        }
        Due.calls(x, "type(0, 103) = 1", "type(0, 57) = 2");
        WellTalk y = new WellTalk();
        for (int k = 0; k < 170; k++) {
            Due.calls(y, "event(0, 39, 7) = 1", "back() = 0", "back() = NOT");
        }
        Due.calls(y, "event(0, 39, 7) = 1", "count(4) = 1");
    }

    private static void typing() {
        Due.says("A byte (0 to 255) comes behind a text: how many. BAD; FULL.");
        WellTalk x = new WellTalk();
        Due.calls(x, "type(0, 0) = 1", "type(0, 255) = 2", "type(1, 255) = 1", "type(1, 0) = 2");
        Due.calls(x, "type(0, -1) = BAD", "type(0, 256) = BAD", "type(0, MIN) = BAD", "type(0, MAX) = BAD");
        Due.calls(x, "type(1, -1) = BAD", "type(1, 256) = BAD", "type(1, 353) = BAD");
        Due.calls(x, "type(-1, 97) = BAD", "type(2, 97) = BAD", "type(MIN, 97) = BAD", "type(MAX, 97) = BAD");
        Due.calls(x, "count(2) = 2", "count(3) = 2", "type(0, 103) = 3");
        WellTalk good = new WellTalk();
        Due.calls(good, "type(0, 359) = BAD", "type(0, 103) = 1", "type(0, 313) = BAD", "type(0, 57) = 2", "count(0) = 1");
    }

    private static void fullTexts() {
        Due.says("1 WELLS are a text of up to 23 bytes (text 0), 8 at most (0 on), with ; between them: "
            + "g (granite), c (chalk) or s (sand), and a figure 0 to 9, how HIGH it stands.");
        WellTalk x = typed(0, EIGHT_WELLS);
        Due.calls(x, "count(2) = 23", "fault(0) = NONE", "count(0) = 8", "type(0, 59) = FULL", "type(0, 256) = BAD");
        Due.calls(x, "count(2) = 23", "fault(0) = NONE", "count(0) = 8");
        Due.calls(x, "well(0, *) = 0 9 1 NONE", "well(1, *) = 1 8 2 0", "well(2, *) = 2 7 3 1", "well(6, *) = 0 3 7 5");
        Due.calls(x, "well(7, *) = 1 0 NONE 6", "well(8, 0) = BAD", "undo(0) = 22", "fault(0) = 22", "type(0, 57) = 23");
        Due.calls(x, "well(7, *) = 1 9 1 NONE", "well(0, 3) = NONE", "type(0, 57) = FULL");
        Due.says("SAYINGS are a text of up to 63 bytes (text 1), 8 at most (0 on), with ; between them: "
            + "a letter a to x, the HOUR (0 to 23), a figure 0 to 7, the WELL, i (an iron bucket) or w (a wooden one), "
            + "and 1 to 4 letters a to h (0 to 7), the WORD.");
        WellTalk y = typed(1, EIGHT_LONG);
        Due.calls(y, "count(3) = 63", "fault(1) = NONE", "count(1) = 8", "type(1, 97) = FULL", "type(1, -1) = BAD");
        Due.calls(y, "count(3) = 63", "fault(1) = NONE", "count(1) = 8");
        Due.calls(y, "saying(0, *) = 0 0 0 4 0 1 2 3", "saying(1, *) = 1 1 1 4 1 2 3 4", "saying(5, *) = 5 5 1 4 5 6 7 0");
        Due.calls(y, "saying(6, *) = 22 6 0 4 6 7 0 1", "saying(7, *) = 23 7 1 4 7 0 1 2", "saying(8, 0) = BAD");
        Due.calls(y, "undo(1) = 62", "saying(7, *) = 23 7 1 3 7 0 1 NONE", "type(1, 104) = 63", "saying(7, 7) = 7");
        WellTalk z = typed(1, EIGHT_SHORT);
        Due.calls(z, "count(3) = 39", "fault(1) = NONE", "count(1) = 8", "saying(7, *) = 7 7 1 1 7 NONE NONE NONE");
        String junk = "x".repeat(63);
        Due.calls(typed(0, junk.substring(0, 22)), "type(0, 0) = 23", "type(0, 0) = FULL", "fault(0) = 0");
        Due.calls(typed(1, junk.substring(0, 62)), "type(1, 0) = 63", "type(1, 0) = FULL", "fault(1) = 1");
    }

    /** Which bytes may stand at a place of a text like the pattern, and where the text is then not ended yet. */
    private static void everyByte(int text, String ahead, String may, boolean ends) {
        for (int b = 0; b < 256; b++) {
            WellTalk x = typed(text, ahead);
            x.type(text, b);
            boolean goesOn = may.indexOf((char) b) >= 0;
            int want = !goesOn ? ahead.length() : ends && b != ';' ? -1 : ahead.length() + 1;
            Due.due("fault(" + text + ") of '" + ahead + "' and " + b, x.fault(text), want);
            Due.due("count(" + text + ") of '" + ahead + "' and " + b, x.count(text) > 0 ? 1 : 0, want == -1 ? 1 : 0);
        }
    }

    private static void everyByteAtEveryPlace() {
        Due.says("The FAULT of a text is the place of the first byte with which it cannot go on");
        String figures = "0123456789";
        everyByte(0, "", "gcs", false);
        everyByte(0, "g", figures, true);
        everyByte(0, "s3", ";", false);
        everyByte(0, "c0;", "gcs", false);
        everyByte(0, "c0;s", figures, true);
        everyByte(0, EIGHT_WELLS.substring(0, 20), ";", false);
        everyByte(0, EIGHT_WELLS.substring(0, 21), "gcs", false);
        everyByte(0, EIGHT_WELLS.substring(0, 22), figures, true);
        String hours = "abcdefghijklmnopqrstuvwx";
        everyByte(1, "", hours, false);
        everyByte(1, "x", "01234567", false);
        everyByte(1, "a7", "iw", false);
        everyByte(1, "a7w", "abcdefgh", true);
        everyByte(1, "a7wh", "abcdefgh;", true);
        everyByte(1, "a7whg", "abcdefgh;", true);
        everyByte(1, "a7whgf", "abcdefgh;", true);
        everyByte(1, "a7whgfe", ";", false);
        everyByte(1, "a7whgfe;", hours, false);
        everyByte(1, "a7whgfe;b", "01234567", false);
        everyByte(1, EIGHT_SHORT.substring(0, 38), "abcdefgh", true);
        everyByte(1, EIGHT_SHORT, "abcdefgh;", true);
    }

    private static void theFirstByteStays() {
        Due.says("The FAULT of a text is the place of the first byte with which it cannot go on");
        WellTalk x = typed(0, "g5 ;c3;x;");
        Due.calls(x, "fault(0) = 2", "count(0) = 0", "count(2) = 9");
        for (int left = 8; left > 2; left--) {
            Due.calls(x, "undo(0) = " + left, "fault(0) = 2");
        }
        Due.calls(x, "undo(0) = 2", "fault(0) = NONE", "count(0) = 1");
        WellTalk y = typed(1, "a0ia;b8;c");
        Due.calls(y, "fault(1) = 6", "undo(1) = 8", "undo(1) = 7", "fault(1) = 6", "undo(1) = 6", "fault(1) = 6");
        Due.calls(y, "undo(1) = 5", "fault(1) = 5", "undo(1) = 4", "fault(1) = NONE", "count(1) = 1");
    }

    private static void emptyOrNotEnded() {
        Due.says("(an empty one is well; of one that is not ended, as behind a ;, its end)");
        Due.calls(new WellTalk(), "fault(0) = NONE", "fault(1) = NONE");
        Due.calls(typed(0, "g"), "fault(0) = 1", "undo(0) = 0", "fault(0) = NONE", "count(0) = 0");
        Due.calls(typed(0, "g5;"), "fault(0) = 3", "count(0) = 0", "undo(0) = 2", "fault(0) = NONE", "count(0) = 1");
        Due.calls(typed(0, "g5;c"), "fault(0) = 4", "count(0) = 0", "wipe(0) = 4", "fault(0) = NONE");
        Due.calls(typed(0, ";"), "fault(0) = 0", "wipe(0) = 1", "fault(0) = NONE");
        Due.calls(typed(1, "a"), "fault(1) = 1", "type(1, 48) = 2", "fault(1) = 2", "type(1, 119) = 3", "fault(1) = 3");
        Due.calls(typed(1, "a0iabcd;"), "fault(1) = 8", "count(1) = 0", "undo(1) = 7", "fault(1) = NONE", "count(1) = 1");
        Due.calls(typed(1, "a0ia;b1i"), "fault(1) = 8", "type(1, 97) = 9", "fault(1) = NONE", "count(1) = 2");
        Due.calls(typed(1, EIGHT_LONG.substring(0, 59)), "fault(1) = 59", "type(1, 97) = 60", "fault(1) = NONE", "count(1) = 8");
    }

    private static void fifthLetters() {
        Due.says("here also of a fifth letter of a WORD");
        Due.calls(typed(1, "a0wabcd"), "fault(1) = NONE", "type(1, 101) = 8", "fault(1) = 7", "count(1) = 0");
        Due.calls(typed(1, "a0waaaaa;b0ia"), "fault(1) = 7");
        Due.calls(typed(1, "a0waaaaaa"), "fault(1) = 7", "undo(1) = 8", "fault(1) = 7", "undo(1) = 7", "fault(1) = NONE");
        Due.calls(typed(1, "a0ia;b0iabcdh"), "fault(1) = 12");
        Due.calls(typed(1, EIGHT_SHORT + "abc"), "fault(1) = NONE", "saying(7, 3) = 4", "type(1, 104) = 43", "fault(1) = 42");
    }

    private static void ninthSayings() {
        Due.says("of the first byte of a ninth");
        WellTalk x = typed(1, EIGHT_SHORT);
        Due.calls(x, "type(1, 59) = 40", "fault(1) = 40", "count(1) = 0", "undo(1) = 39", "fault(1) = NONE", "count(1) = 8");
        for (int b = 0; b < 256; b++) {
            Due.calls(typed(1, EIGHT_SHORT + ";"), "type(1, " + b + ") = 41", "fault(1) = 40");
        }
        Due.calls(typed(1, EIGHT_SHORT + ";a0ia"), "fault(1) = 40", "count(1) = 0", "count(3) = 44");
        Due.calls(typed(1, EIGHT_SHORT + ";a0ia;a0ia;a0ia"), "fault(1) = 40", "count(1) = 0");
        Due.calls(typed(1, "a0iabcd;" + EIGHT_SHORT.substring(5) + ";"), "fault(1) = 43", "count(3) = 43");
        Due.calls(typed(1, "a0iabcd;" + EIGHT_SHORT.substring(5) + ";x7wh"), "fault(1) = 43");
        Due.calls(typed(1, EIGHT_LONG.substring(0, 62) + ";"), "fault(1) = 63", "count(1) = 0");
        Due.calls(typed(1, EIGHT_LONG.substring(0, 60) + ";aa"), "fault(1) = 61", "type(1, 97) = FULL");
        Due.calls(typed(1, EIGHT_SHORT + "ax;a"), "fault(1) = 40");
    }

    private static void asIfEmpty() {
        Due.says("With a FAULT a text is as if it was empty.");
        String[] noWells = {"count(0) = 0", "well(0, 0) = BAD", "hears(0) = BAD", "soon(0) = BAD", "stone(0, 0) = BAD",
            "stone(0, 1) = BAD", "ask(0) = BAD", "at(*, 0, 0) = NONE NONE NONE", "at(*, 0, 1) = 2 0 0", "gone() = 1",
            "babel(0) = NONE", "tell(0, 0, 0) = NONE", "toss(0, *) = NONE NONE NONE", "open(1, NONE) = NONE", "iron(1) = 1",
            "chance(4, 0, 1, *) = 0 1", "day(3, 3, 0) = 1", "day(3, 3, 1) = 0", "count(5) = 1", "count(6) = 0"};
        for (int b : new int[] {';', 'x', '5', 0}) {
            WellTalk x = Due.village("g9;g5;g1", "b0wab", 0, 2, 0);
            Due.calls(x, "hears(1) = 1", "toss(1, 2) = 1", "type(0, " + b + ") = 9");
            Due.calls(x, noWells);
            Due.calls(x, "count(2) = 9", "undo(0) = 8", "count(0) = 3", "hears(1) = 1", "gone() = 0", "toss(1, 2) = 1");
        }
        String[] noSayings = {"count(1) = 0", "saying(0, 0) = BAD", "at(0, 0, 0) = BAD", "hears(1) = 0", "soon(1) = NONE",
            "gone() = 0", "babel(1) = NONE", "tell(0, 0, 0) = BAD", "toss(1, *) = 0 0 0", "open(0, NONE) = 0",
            "iron(0) = NONE", "bucket(0) = BAD", "ask(1) = 0", "chance(0, 0, 0, 0) = LEAST", "day(1, 8, 0) = 0",
            "day(1, 8, 1) = 0", "write(0, 0) = BAD", "count(5) = 0", "count(6) = 0", "well(0, 2) = 1", "count(0) = 3"};
        for (int b : new int[] {';', 'i', '0', 255}) {
            WellTalk x = Due.village("g9;g5;g1", "a0wab;a0ia");
            Due.calls(x, "hears(1) = 3", "babel(0) = 1", "sheet(0, 0, 3) = 3", "type(1, " + b + ") = 11");
            Due.calls(x, noSayings);
            Due.calls(x, "count(3) = 11", "undo(1) = 10", "count(1) = 2", "hears(1) = 3", "babel(0) = 1", "iron(0) = 0");
        }
    }

    private static void wiping() {
        Due.says("A text is empty: how many bytes it had. BAD.");
        WellTalk x = Due.village(EIGHT_WELLS, EIGHT_LONG);
        Due.calls(x, "wipe(-1) = BAD", "wipe(2) = BAD", "wipe(MIN) = BAD", "wipe(MAX) = BAD", "count(0) = 8", "count(1) = 8");
        Due.calls(x, "wipe(0) = 23", "count(0) = 0", "count(2) = 0", "count(1) = 8", "wipe(0) = 0", "fault(0) = NONE");
        Due.calls(x, "wipe(1) = 63", "count(1) = 0", "count(3) = 0", "wipe(1) = 0", "fault(1) = NONE", "gone() = 0");
        Due.calls(x, "type(0, 103) = 1", "type(1, 97) = 1", "fault(0) = 1", "fault(1) = 1", "wipe(1) = 1", "wipe(0) = 1");
        WellTalk y = Due.village("xx", "");
        Due.calls(y, "fault(0) = 0", "wipe(0) = 2", "fault(0) = NONE", "undo(0) = NOT");
    }

    private static void undoing() {
        Due.says("The last byte of a text is undone: how many are left. BAD; NOT: it is empty.");
        WellTalk x = Due.village("g9", "a0ia");
        Due.calls(x, "undo(-1) = BAD", "undo(2) = BAD", "undo(MIN) = BAD", "undo(MAX) = BAD", "count(2) = 2", "count(3) = 4");
        Due.calls(x, "undo(0) = 1", "undo(0) = 0", "undo(0) = NOT", "undo(0) = NOT", "count(2) = 0", "count(3) = 4");
        Due.calls(x, "undo(1) = 3", "count(1) = 0", "undo(1) = 2", "undo(1) = 1", "undo(1) = 0", "undo(1) = NOT");
        Due.calls(x, "type(1, 98) = 1", "undo(1) = 0", "type(0, 99) = 1", "type(0, 48) = 2", "well(0, 0) = 1");
        WellTalk full = Due.village(EIGHT_WELLS, EIGHT_LONG);
        Due.calls(full, "type(0, 59) = FULL", "undo(0) = 22", "undo(0) = 21", "undo(0) = 20", "count(0) = 7");
        Due.calls(full, "type(0, 59) = 21", "count(0) = 0", "undo(1) = 62", "type(1, 97) = 63", "saying(7, 7) = 0");
    }

    private static void faultsOfNoText() {
        Due.says("The FAULT of a text; NONE. BAD.");
        WellTalk x = Due.village("x", "");
        Due.calls(x, "fault(-1) = BAD", "fault(2) = BAD", "fault(MIN) = BAD", "fault(MAX) = BAD", "fault(*) = 0 NONE");
    }

    private static void wells() {
        Due.says("Its stone (what = 0: 0 g, 1 c, 2 s), how HIGH (1), DOWN (2; NONE), UP (3; NONE) of a WELL. BAD.");
        WellTalk one = Due.village("s0", "");
        Due.calls(one, "well(0, *) = 2 0 NONE NONE BAD", "well(1, 0) = BAD", "well(-1, 0) = BAD", "well(0, -1) = BAD");
        Due.calls(one, "well(MAX, 0) = BAD", "well(MIN, 0) = BAD", "well(0, MAX) = BAD", "well(0, MIN) = BAD");
        for (int stone = 0; stone < 3; stone++) {
            for (int high = 0; high < 10; high++) {
                WellTalk x = Due.village("gcs".charAt(stone) + "" + high, "");
                Due.calls(x, "well(0, *) = " + stone + " " + high + " NONE NONE");
            }
        }
        Due.says("DOWN, UP of a WELL; NONE.");
        Due.calls(Due.village("g5;g5", ""), "well(*, 2) = NONE NONE BAD", "well(*, 3) = NONE NONE BAD");
        Due.calls(Due.village("g5;g6", ""), "well(*, 2) = NONE 0 BAD", "well(*, 3) = 1 NONE BAD");
        Due.says("DOWN from a WELL is the highest one of those that are lower, UP the lowest one of those that are higher, "
            + "of like ones the least; NONE.");
        WellTalk like = Due.village("g5;c5;s5;g9;g9;g0;g0;g5", "");
        Due.calls(like, "well(*, 0) = 0 1 2 0 0 0 0 0 BAD", "well(*, 1) = 5 5 5 9 9 0 0 5");
        Due.calls(like, "well(*, 2) = 5 5 5 0 0 NONE NONE 5", "well(*, 3) = 3 3 3 NONE NONE 0 0 3");
        WellTalk near = Due.village("g4;g0;g3;g9;g5;g6", "");
        Due.calls(near, "well(*, 2) = 2 NONE 1 5 0 4", "well(*, 3) = 4 2 0 NONE 5 3");
        WellTalk ends = Due.village("g9;g0", "");
        Due.calls(ends, "well(0, *) = 0 9 1 NONE", "well(1, *) = 0 0 NONE 0");
    }

    private static void sayings() {
        Due.says("The HOUR (what = 0), the WELL (1), the bucket (2: 0 i, 1 w), how many letters (3), "
            + "these (4 to 7; NONE: not so many) of a SAYING as told. BAD.");
        WellTalk x = Due.village("", "a0ia;x7whgfe;m3ibc;c2wdef");
        Due.calls(x, "saying(0, *) = 0 0 0 1 0 NONE NONE NONE BAD", "saying(1, *) = 23 7 1 4 7 6 5 4 BAD");
        Due.calls(x, "saying(2, *) = 12 3 0 2 1 2 NONE NONE BAD", "saying(3, *) = 2 2 1 3 3 4 5 NONE BAD");
        Due.calls(x, "saying(4, 0) = BAD", "saying(-1, 0) = BAD", "saying(0, -1) = BAD", "saying(MAX, 0) = BAD");
        Due.calls(x, "saying(MIN, 0) = BAD", "saying(0, MAX) = BAD", "saying(0, MIN) = BAD");
        for (int k = 0; k < 24; k++) {
            String told = (char) ('a' + k) + "" + k % 8 + "iw".charAt(k % 2) + (char) ('a' + k % 8);
            Due.calls(Due.village("", told), "saying(0, *) = " + k + " " + k % 8 + " " + k % 2 + " 1 " + k % 8);
        }
    }

    public static void main(String[] args) {
        aNewObject();
        theLastCallThatCounts();
        typing();
        fullTexts();
        everyByteAtEveryPlace();
        theFirstByteStays();
        emptyOrNotEnded();
        fifthLetters();
        ninthSayings();
        asIfEmpty();
        wiping();
        undoing();
        faultsOfNoText();
        wells();
        sayings();
        Due.end();
    }
}
