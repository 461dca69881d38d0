/** Promises 1 to 7: a new object, texts, their faults, the wells and sayings that they tell. */
public final class TextsTest {
    private static final String EIGHT_WELLS = "g9;c8;s7;g6;c5;s4;g3;c0";
    private static final String EIGHT_SAYINGS = "a0ia;b1wb;c2ic;d3wd;e4ie;f5wf;g6ig;h7wh";

    private static void aNewObject() {
        WellTalk x = new WellTalk();
        for (int what = 0; what <= 8; what++) {
            Due.due("new: count(" + what + ")", x.count(what), 0);
        }
        Due.due("new: fault(0)", x.fault(0), WellTalk.NONE);
        Due.due("new: fault(1)", x.fault(1), WellTalk.NONE);
        Due.due("new: back()", x.back(), WellTalk.NOT);
        Due.due("new: undo(0)", x.undo(0), WellTalk.NOT);
        Due.due("new: forget()", x.forget(), 0);
        Due.due("new: well(0, 0)", x.well(0, 0), WellTalk.BAD);
        Due.due("new: saying(0, 0)", x.saying(0, 0), WellTalk.BAD);
        Due.due("new: gone()", x.gone(), 0);
        for (int s = 0; s < 4; s++) {
            Due.due("new: lose(" + s + ")", x.lose(s), -11);
            Due.due("new: get(" + s + ", 0, 0)", x.get(s, 0, 0), Integer.MIN_VALUE);
        }
        Due.due("new: count(8) behind", x.count(8), 1);
        Due.due("NONE", WellTalk.NONE, -1);
        Due.due("BAD", WellTalk.BAD, -2);
        Due.due("NOT", WellTalk.NOT, -3);
        Due.due("FULL", WellTalk.FULL, -4);
    }

    private static void objectsAreApart() {
        WellTalk x = Due.village("g5", "a0ia");
        WellTalk y = new WellTalk();
        x.event(0, 0, 0);
        x.sheet(0, 0, 1);
        x.draw(0, 0, 0);
        for (int what = 0; what <= 8; what++) {
            Due.due("apart: count(" + what + ")", y.count(what), 0);
        }
        Due.due("apart: lose(0)", y.lose(0), -11);
    }

    private static void typing() {
        WellTalk x = new WellTalk();
        Due.due("type(-1, 103)", x.type(-1, 103), -2);
        Due.due("type(2, 103)", x.type(2, 103), -2);
        Due.due("type(least, 103)", x.type(Integer.MIN_VALUE, 103), -2);
        Due.due("type(0, -1)", x.type(0, -1), -2);
        Due.due("type(0, 256)", x.type(0, 256), -2);
        Due.due("type(1, 359)", x.type(1, 256 + 103), -2);
        Due.due("bytes of 0", x.count(2), 0);
        Due.due("bytes of 1", x.count(3), 0);
        int[] room = {23, 63};
        for (int text = 0; text < 2; text++) {
            for (int i = 1; i <= room[text]; i++) {
                Due.due("type " + i, x.type(text, i % 2 == 0 ? 255 : 0), i);
            }
            Due.due("type(" + text + ") of a full one", x.type(text, 0), -4);
            Due.due("type(" + text + ", 256) of a full one", x.type(text, 256), -2);
            Due.due("bytes of " + text, x.count(2 + text), room[text]);
            Due.due("fault of " + text, x.fault(text), 0);
        }
    }

    private static void wiping() {
        WellTalk x = Due.village("g5;g3", "a0iab");
        Due.events(x, 0, 1, 1);
        x.draw(1, 0, 2);
        Due.due("wipe(-1)", x.wipe(-1), -2);
        Due.due("wipe(2)", x.wipe(2), -2);
        Due.due("wipe(1)", x.wipe(1), 5);
        Due.due("sayings", x.count(1), 0);
        Due.due("wells", x.count(0), 2);
        Due.due("wipe(1) again", x.wipe(1), 0);
        Due.due("fault(1)", x.fault(1), -1);
        Due.due("wipe(0)", x.wipe(0), 5);
        Due.due("wells", x.count(0), 0);
        Due.due("events stay", x.count(4), 1);
        Due.due("what was drawn stays", x.count(7), 1);
        Due.type(x, 0, "c4");
        Due.due("typed anew", x.well(0, 0), 1);
        Due.due("typed anew", x.well(0, 1), 4);
    }

    private static void undoing() {
        WellTalk x = Due.village("g5;x", "a0iab");
        Due.due("undo(-1)", x.undo(-1), -2);
        Due.due("undo(2)", x.undo(2), -2);
        Due.due("wells with a fault", x.count(0), 0);
        Due.due("undo(0)", x.undo(0), 3);
        Due.due("fault behind ;", x.fault(0), 3);
        Due.due("undo(0)", x.undo(0), 2);
        Due.due("wells", x.count(0), 1);
        Due.due("at(0, 0, 0)", x.at(0, 0, 0), 0);
        Due.due("undo(1)", x.undo(1), 4);
        Due.due("letters", x.saying(0, 3), 1);
        Due.due("undo(1)", x.undo(1), 3);
        Due.due("sayings", x.count(1), 0);
        Due.due("at(0, 0, 0)", x.at(0, 0, 0), -2);
        Due.due("undo(0)", x.undo(0), 1);
        Due.due("undo(0)", x.undo(0), 0);
        Due.due("undo(0)", x.undo(0), -3);
        Due.due("bytes", x.count(2), 0);
        Due.due("undo(1)", x.undo(1), 2);
    }

    private static void dueFault(int text, String s, int want) {
        WellTalk x = new WellTalk();
        Due.type(x, text, s);
        Due.due("fault(" + text + ") of '" + s + "'", x.fault(text), want);
        Due.due("bytes of '" + s + "'", x.count(2 + text), s.length());
        if (want != -1) {
            Due.due("none are told by '" + s + "'", x.count(text), 0);
            Due.due("well(0, 0) of '" + s + "'", x.well(0, 0), -2);
            Due.due("saying(0, 0) of '" + s + "'", x.saying(0, 0), -2);
        }
    }

    private static void faultsOfWells() {
        dueFault(0, "", -1);
        for (String good : new String[] {"g0", "c9", "s5", "g0;c1;s2", EIGHT_WELLS}) {
            dueFault(0, good, -1);
        }
        dueFault(0, "g", 1);
        dueFault(0, "5", 0);
        dueFault(0, ";", 0);
        dueFault(0, "G5", 0);
        dueFault(0, "f5", 0);
        dueFault(0, "t5", 0);
        dueFault(0, "gg", 1);
        dueFault(0, "g:", 1);
        dueFault(0, "g/", 1);
        dueFault(0, "g" + (char) (256 - 1), 1);
        dueFault(0, "g" + (char) (48 + 128), 1);
        dueFault(0, "" + (char) 0, 0);
        dueFault(0, "" + (char) (103 + 128), 0);
        dueFault(0, "g55", 2);
        dueFault(0, "g5,g6", 2);
        dueFault(0, "g5g6", 2);
        dueFault(0, "g5;", 3);
        dueFault(0, "g5;;g6", 3);
        dueFault(0, "g5;s", 4);
        dueFault(0, "g5;g6;x1", 6);
        dueFault(0, "g5;c ;x1", 4);
    }

    private static void faultsOfSayings() {
        dueFault(1, "", -1);
        for (String good : new String[] {"a0ia", "x7wh", "a0iabcd", "b3wab;c4ih", EIGHT_SAYINGS}) {
            dueFault(1, good, -1);
        }
        dueFault(1, "a", 1);
        dueFault(1, "a0", 2);
        dueFault(1, "a0i", 3);
        dueFault(1, "y0ia", 0);
        dueFault(1, "`0ia", 0);
        dueFault(1, "A0ia", 0);
        dueFault(1, ";", 0);
        dueFault(1, "a8ia", 1);
        dueFault(1, "a/ia", 1);
        dueFault(1, "aaia", 1);
        dueFault(1, "a0xa", 2);
        dueFault(1, "a0aa", 2);
        dueFault(1, "a0ii", 3);
        dueFault(1, "a0i;", 3);
        dueFault(1, "a0i`", 3);
        dueFault(1, "a0iai", 4);
        dueFault(1, "a0wabcde", 7);
        dueFault(1, "a0wabcdx", 7);
        dueFault(1, "a0wabcd;", 8);
        dueFault(1, "a0wabcd;;", 8);
        dueFault(1, "a0ia;b9", 6);
        dueFault(1, "a0ia;" + (char) (97 + 128), 5);
        dueFault(1, EIGHT_SAYINGS + ";", 40);
        dueFault(1, EIGHT_SAYINGS + ";a", 40);
        dueFault(1, EIGHT_SAYINGS + ";a0ia", 40);
        dueFault(1, EIGHT_SAYINGS + ";;", 40);
        dueFault(1, EIGHT_SAYINGS + "abcd", 42);
        dueFault(1, EIGHT_SAYINGS + "abc", -1);
        WellTalk x = new WellTalk();
        Due.due("fault(-1)", x.fault(-1), -2);
        Due.due("fault(2)", x.fault(2), -2);
    }

    private static void dueWell(WellTalk x, int well, int stone, int high, int down, int up) {
        int[] want = {stone, high, down, up};
        for (int what = 0; what < 4; what++) {
            Due.due("well(" + well + ", " + what + ")", x.well(well, what), want[what]);
        }
    }

    private static void wells() {
        WellTalk x = Due.village("g5;c3;s3;g4;c9;s9", "");
        dueWell(x, 0, 0, 5, 3, 4);
        dueWell(x, 1, 1, 3, -1, 3);
        dueWell(x, 2, 2, 3, -1, 3);
        dueWell(x, 3, 0, 4, 1, 0);
        dueWell(x, 4, 1, 9, 0, -1);
        dueWell(x, 5, 2, 9, 0, -1);
        Due.due("count(0)", x.count(0), 6);
        Due.due("well(-1, 0)", x.well(-1, 0), -2);
        Due.due("well(6, 0)", x.well(6, 0), -2);
        Due.due("well(0, -1)", x.well(0, -1), -2);
        Due.due("well(0, 4)", x.well(0, 4), -2);
        Due.retype(x, 0, "g0;g0");
        dueWell(x, 0, 0, 0, -1, -1);
        dueWell(x, 1, 0, 0, -1, -1);
        Due.due("well(2, 0)", x.well(2, 0), -2);
        Due.retype(x, 0, EIGHT_WELLS);
        dueWell(x, 7, 1, 0, -1, 6);
        dueWell(x, 0, 0, 9, 1, -1);
        Due.due("count(0)", x.count(0), 8);
        Due.due("well(8, 0)", x.well(8, 0), -2);
    }

    private static void dueSaying(WellTalk x, int saying, int... want) {
        for (int what = 0; what < 8; what++) {
            Due.due("saying(" + saying + ", " + what + ")", x.saying(saying, what), want[what]);
        }
    }

    private static void sayings() {
        WellTalk x = Due.village("", "a0ia;x7whgfe;l3ibc");
        dueSaying(x, 0, 0, 0, 0, 1, 0, -1, -1, -1);
        dueSaying(x, 1, 23, 7, 1, 4, 7, 6, 5, 4);
        dueSaying(x, 2, 11, 3, 0, 2, 1, 2, -1, -1);
        Due.due("count(1)", x.count(1), 3);
        Due.due("saying(3, 0)", x.saying(3, 0), -2);
        Due.due("saying(-1, 0)", x.saying(-1, 0), -2);
        Due.due("saying(0, 8)", x.saying(0, 8), -2);
        Due.due("saying(0, -1)", x.saying(0, -1), -2);
        Due.retype(x, 1, EIGHT_SAYINGS);
        dueSaying(x, 7, 7, 7, 1, 1, 7, -1, -1, -1);
        Due.due("count(1)", x.count(1), 8);
    }

    public static void main(String[] args) {
        aNewObject();
        objectsAreApart();
        typing();
        wiping();
        undoing();
        faultsOfWells();
        faultsOfSayings();
        wells();
        sayings();
        Due.end();
    }
}
