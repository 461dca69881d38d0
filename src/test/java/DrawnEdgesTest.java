import java.util.Arrays;

/** The edges that the document names of its part 4: DRAWN, NEVER, STONE .. ASK, CHANCE, DAY; promises 20 to 27. */
public final class DrawnEdgesTest {
    private static final int COIN = 0, LID = 1, DROUGHT = 2;

    private static void drawing() {
        Due.says("DRAWN more: how many. BAD; FULL.");
        WellTalk x = new WellTalk();
        Due.calls(x, "draw(-1, 0, 0) = BAD", "draw(40, 0, 0) = BAD", "draw(MIN, 0, 0) = BAD", "draw(MAX, 0, 0) = BAD");
        Due.calls(x, "draw(0, -1, 0) = BAD", "draw(0, 8, 0) = BAD", "draw(0, MIN, 0) = BAD", "draw(0, MAX, 0) = BAD");
        Due.calls(x, "draw(0, 0, -1) = BAD", "draw(0, 0, 5) = BAD", "draw(0, 0, MIN) = BAD", "draw(0, 0, MAX) = BAD");
        Due.calls(x, "count(7) = 0", "draw(0, 0, 0) = 1", "draw(39, 7, 4) = 2", "draw(39, 0, 0) = 3", "draw(0, 7, 0) = 4");
        Due.says("DRAWN, 8 at most: behind an HOUR a SAYING (0 to 7; of one that there is not it never comes out so) "
            + "had so many letters left (0 to 4).");
        Due.calls(x, "draw(0, 0, 4) = 5", "draw(0, 0, 4) = 6", "draw(1, 1, 1) = 7", "draw(40, 0, 0) = BAD", "draw(1, 1, 1) = 8");
        Due.calls(x, "draw(1, 1, 1) = FULL", "draw(0, 0, 0) = FULL", "draw(40, 0, 0) = BAD", "draw(0, 8, 0) = BAD");
        Due.calls(x, "draw(0, 0, 5) = BAD", "count(7) = 8");
        Due.says("All that was DRAWN is forgotten: how many.");
        Due.calls(x, "forget() = 8", "count(7) = 0", "forget() = 0", "draw(1, 1, 1) = 1", "forget() = 1", "forget() = 0");
    }

    private static void whatComesOut() {
        Due.says("of one that there is not it never comes out so");
        WellTalk x = Due.village("g9;g5", "a0ia", COIN, 30, 0);
        Due.calls(x, "draw(0, 1, 0) = 1", "never() = 0", "stone(0, *) = 0 0", "bucket(0) = 0", "ask(1) = 0");
        Due.type(x, 1, ";b1ia");
        Due.calls(x, "never() = 0", "forget() = 1", "draw(0, 1, 1) = 1", "never() = 1", "stone(0, *) = 7 1023", "bucket(1) = 3");
        Due.calls(x, "wipe(1) = 9", "never() = 0", "stone(0, *) = 0 0", "forget() = 1", "never() = 1", "stone(0, 0) = 7");
        for (int saying = 0; saying < 8; saying++) {
            WellTalk eight = Due.village(Due.EIGHT_DOWN, "a0ia;a0iab;a0iabc;a0iabcd;a0ia;a0iab;a0iabc;a0iabcd", COIN, 30, 0);
            for (int letters = 0; letters < 5; letters++) {
                boolean isSo = letters == saying % 4 + 1;
                boolean byWood = letters == Math.max(0, saying % 4 - 2);
                Due.calls(eight, "draw(39, " + saying + ", " + letters + ") = 1", "never() = " + (isSo ? 1 : 0));
                Due.calls(eight, "stone(7, 1) = " + (isSo ? 1023 : 0), "bucket(" + saying + ") = " + (isSo ? 1 : byWood ? 2 : 0), "forget() = 1");
            }
        }
        Due.says("makes all that was DRAWN come out so");
        WellTalk all = Due.village("g9;g5", "a0iab;a0ia", COIN, 30, 0);
        for (int place = 0; place < 8; place++) {
            for (int d = 0; d < 8; d++) {
                Due.calls(all, "draw(" + d + ", " + d % 2 + ", " + (d == place ? 3 : 2 - d % 2) + ") = " + (d + 1));
            }
            Due.calls(all, "never() = 0", "stone(0, *) = 0 0", "bucket(0) = 0", "ask(1) = 0", "forget() = 8");
        }
    }

    private static void atTheEndsOfTheHours() {
        Due.says("behind an HOUR a SAYING (0 to 7; of one that there is not it never comes out so) had so many letters left (0 to 4)");
        WellTalk x = Due.village("g9;g0", "a1ia;x1iabcd", COIN, 39, 1, LID, 37, 0);
        Due.calls(x, "draw(39, 0, 0) = 1", "never() = 0", "bucket(0) = 3", "forget() = 1", "draw(39, 0, 1) = 1", "never() = 3");
        Due.calls(x, "forget() = 1", "draw(38, 0, 1) = 1", "never() = 3", "forget() = 1", "draw(38, 0, 0) = 1", "never() = 0");
        Due.calls(x, "forget() = 1", "draw(22, 1, 4) = 1", "draw(0, 1, 4) = 2", "stone(1, 0) = 7", "bucket(1) = 3");
        WellTalk lost = Due.village("", "c0iab", COIN, 0, 0);
        Due.calls(lost, "draw(1, 0, 2) = 1", "never() = 1", "draw(2, 0, 0) = 2", "draw(39, 0, 0) = 3", "never() = 1", "bucket(0) = 3");
    }

    private static void never() {
        Due.says("NEVER, as bits.");
        WellTalk four = Due.village("g9;g5", "a0ia", COIN, 30, 0, LID, 0, 0, DROUGHT, 30, 0, LID, 30, 0);
        Due.calls(four, "never() = 15", "draw(0, 0, 1) = 1", "never() = 2", "draw(0, 0, 0) = 2", "never() = 0");
        Due.says("NEVER: EVENTS each of which, had it alone not been, makes all that was DRAWN come out so, as bits.");
        Due.calls(new WellTalk(), "never() = 0", "draw(0, 0, 0) = 1", "never() = 0");
        for (int place = 0; place < 8; place++) {
            WellTalk x = Due.village("g9;g5", "a0ia;a1ia");
            for (int e = 0; e < 8; e++) {
                Due.calls(x, "event(" + (e == place ? "1, 0, 0" : e % 2 == 0 ? "0, 0, 1" : "2, 39, 1") + ") = " + (e + 1));
            }
            Due.calls(x, "never() = 255", "draw(0, 0, 1) = 1", "never() = " + (1 << place), "draw(0, 1, 1) = 2");
            Due.calls(x, "never() = " + (1 << place), "forget() = 2", "draw(0, 0, 0) = 1", "never() = " + (255 - (1 << place)));
        }
        WellTalk two = Due.village("g9;g5", "a0ia", LID, 0, 0, LID, 0, 0);
        Due.calls(two, "draw(0, 0, 1) = 1", "never() = 0", "forget() = 1", "draw(0, 0, 0) = 1", "never() = 3", "gone() = 1");
        WellTalk wood = Due.village("g9;g8;g7", "a0wab;a0wab", COIN, 30, 0);
        Due.calls(wood, "draw(2, 0, 1) = 1", "never() = 1", "draw(2, 1, 1) = 2", "never() = 1", "draw(2, 0, 2) = 3", "never() = 0");
        WellTalk coins = Due.village("g9;c5;g1", "a0iab;a1ia", COIN, 1, 0, DROUGHT, 2, 0);
        Due.calls(coins, "draw(1, 0, 1) = 1", "never() = 1", "forget() = 1", "draw(2, 0, 2) = 1", "never() = 0", "forget() = 1");
        Due.calls(coins, "draw(3, 0, 2) = 1", "never() = 0", "forget() = 1", "draw(3, 0, 1) = 1", "never() = 3");
    }

    private static void refusedStones() {
        Due.says("STONE (what = 0), STOOD (1) of a WELL, as bits. BAD.");
        WellTalk x = Due.village("g9;g5", "a0ia");
        Due.calls(x, "stone(-1, 0) = BAD", "stone(2, 0) = BAD", "stone(MIN, 0) = BAD", "stone(MAX, 1) = BAD", "stone(2, 1) = BAD");
        Due.calls(x, "stone(0, -1) = BAD", "stone(0, 2) = BAD", "stone(0, MIN) = BAD", "stone(0, MAX) = BAD");
        Due.calls(x, "stone(0, *) = 7 1023", "stone(1, *) = 7 1023", "draw(0, 1, 0) = 1", "stone(0, *) = 0 0", "stone(2, 0) = BAD");
        Due.calls(Due.village("", "a0ia"), "stone(0, 0) = BAD", "stone(7, 1) = BAD");
    }

    private static void stones() {
        Due.says("STONE of a WELL: 0 g, 1 c, 2 s, in place of its own, likewise, as bits.");
        for (char own : "gcs".toCharArray()) {
            WellTalk x = Due.village("g9;" + own + "5;g1", "a0iab");
            Due.calls(x, "draw(1, 0, 1) = 1", "stone(1, 0) = 2", "forget() = 1", "draw(1, 0, 2) = 1", "stone(1, 0) = 5");
            Due.calls(x, "well(1, 0) = " + "gcs".indexOf(own));
            WellTalk y = Due.village(own + "9;c5", "a0iab");
            Due.calls(y, "draw(1, 0, 2) = 1", "stone(0, 0) = 4", "draw(2, 0, 2) = 2", "stone(0, 0) = 0", "forget() = 2");
            Due.calls(y, "draw(1, 0, 1) = 1", "stone(0, 0) = 3", "draw(2, 0, 1) = 2", "stone(0, 0) = 3");
        }
        WellTalk wood = Due.village("g9;g8;g7", "a0wab;a0iab");
        Due.calls(wood, "draw(2, 0, 1) = 1", "stone(1, *) = 1 383", "draw(2, 1, 2) = 2", "stone(1, *) = 1 383");
        WellTalk one = Due.village("g9;g5;c1", "a0iab");
        Due.calls(one, "draw(3, 0, 2) = 1", "stone(1, 0) = 0", "forget() = 1", "draw(2, 0, 2) = 1", "stone(1, 0) = 4", "stone(2, 0) = 5");
        WellTalk eight = Due.village(Due.EIGHT_DOWN, "a0ia;a0ia;a0ia;a0ia;a0ia;a0ia;a0ia;a6iab");
        Due.calls(eight, "draw(1, 7, 1) = 1", "stone(7, *) = 2 0", "stone(6, 0) = 0", "stone(0, 0) = 0");
    }

    private static void heights() {
        Due.says("STOOD of a WELL: 0 to 9, how HIGH, in place of its own, likewise, as bits.");
        for (int own = 0; own < 10; own++) {
            WellTalk top = Due.village("g8;c" + own, "a0iab", COIN, 1, 0);
            Due.calls(top, "draw(1, 0, 1) = 1", "stone(1, 1) = 512", "well(1, 1) = " + own);
            WellTalk floor = Due.village("g1;c" + own, "a0iab");
            Due.calls(floor, "draw(1, 0, 1) = 1", "stone(1, 1) = 1", "forget() = 1", "draw(1, 0, 2) = 1", "stone(1, 1) = 1022");
            WellTalk mid = Due.village("g9;c" + own + ";g3", "a0iab");
            Due.calls(mid, "draw(1, 0, 1) = 1", "stone(1, 1) = 504", "draw(39, 0, 0) = 2", "stone(1, 1) = 0");
        }
        WellTalk dry = Due.village("g9;g5;c5", "a0iab", DROUGHT, 1, 0);
        Due.calls(dry, "draw(1, 0, 1) = 1", "stone(2, 1) = 31", "stone(1, 1) = 960", "stone(0, 1) = 0");
    }

    private static void buckets() {
        Due.says("BUCKET, as bits. BAD.");
        Due.calls(Due.village("g9", "a0ia"), "bucket(0) = 3", "bucket(1) = BAD", "bucket(-1) = BAD", "bucket(7) = BAD");
        Due.says("BUCKET of a SAYING: 0 i, 1 w, in place of its own, likewise, as bits.");
        for (char own : "iw".toCharArray()) {
            WellTalk x = Due.village("g9;g8;g7", "a0ia;a0" + own + "ab");
            Due.calls(x, "bucket(*) = 3 3 BAD", "bucket(-1) = BAD", "bucket(MIN) = BAD", "bucket(MAX) = BAD");
            Due.calls(x, "draw(2, 1, 1) = 1", "bucket(1) = 2", "forget() = 1", "draw(2, 1, 2) = 1", "bucket(1) = 1");
            Due.calls(x, "bucket(0) = " + (own == 'i' ? 3 : 0), "draw(2, 1, 1) = 2", "bucket(1) = 0", "saying(1, 2) = " + "iw".indexOf(own));
        }
        WellTalk eight = Due.village("g9;g8;g7", "a0ia;a0ia;a0ia;a0ia;a0ia;a0ia;a0ia;a0ia");
        Due.calls(eight, "draw(2, 7, 0) = 1", "bucket(7) = 2", "bucket(6) = 0", "bucket(8) = BAD", "draw(2, 0, 1) = 2", "bucket(7) = 2");
        Due.calls(Due.village("g9", ""), "bucket(0) = BAD");
        Due.calls(Due.village("", "a0ia"), "bucket(0) = 3");
    }

    private static void asking() {
        Due.says("ASK. BAD.");
        Due.calls(Due.village("g9;g5", "b0ia"), "ask(*) = 2 2 BAD", "ask(-1) = BAD", "ask(7) = BAD");
        Due.says("ASK of a WELL: the HOUR behind which the greatest number of those of STOOD by which as many SAYINGS are in it is least, "
            + "of like ones the least.");
        Due.calls(Due.village("g9;g5", "a0ia"), "ask(-1) = BAD", "ask(2) = BAD", "ask(MIN) = BAD", "ask(MAX) = BAD");
        Due.calls(Due.village("", "a0ia"), "ask(0) = BAD", "ask(7) = BAD");
        Due.calls(Due.village("g9;g5", ""), "ask(*) = 0 0 BAD", "stone(0, 1) = 1023");
        Due.calls(Due.village("g9", "x0ia"), "ask(0) = 0");
        Due.calls(Due.village("g9;g5", "a0ia"), "ask(1) = 1", "draw(0, 0, 2) = 1", "stone(1, 1) = 0", "ask(*) = 0 0");
        Due.calls(Due.village("g9;g5", "x0ia"), "ask(1) = 24", "ask(0) = 24");
        Due.calls(Due.village("g0;g5;g3", "a0ia", COIN, 39, 0), "ask(2) = 39", "ask(1) = 39");
        Due.calls(Due.village("g9;g5", "a0ia;a0ia;a0ia;a0ia;a0ia;a0ia;a0ia;a0ia"), "ask(*) = 1 1");
        Due.calls(Due.village("g5;g4;g3", "a1ia"), "ask(0) = 2", "undo(1) = 3", "undo(1) = 2", "type(1, 119) = 3", "type(1, 97) = 4", "ask(0) = 1");
        WellTalk wood = Due.village("s1;c8;g1", "a1wa;a2wabc");
        Due.calls(wood, "draw(1, 1, 3) = 1", "stone(2, 1) = 511", "ask(2) = 2");
        WellTalk three = Due.village("g9;g2;g6", "a0iabc;a0wa;b0wa");
        Due.calls(three, "draw(1, 2, 1) = 1", "stone(1, 1) = 1023", "ask(1) = 3");
    }

    /** Only those of STOOD count: by all of 0 to 9 the answer would be another one. */
    private static void askingOfStoodAlone() {
        Due.says("the greatest number of those of STOOD by which as many SAYINGS are in it");
        WellTalk x = Due.village("s6;c6;s4", "c1wa;a0wabc");
        Due.calls(x, "stone(0, 1) = 1023", "ask(0) = 2", "draw(3, 1, 3) = 1", "stone(0, 1) = 127", "ask(0) = 5");
        WellTalk y = Due.village("s4;c6;g2", "b0wabc;a1wabc;b2wab", DROUGHT, 1, 2);
        Due.calls(y, "stone(2, 1) = 1023", "ask(2) = 2", "draw(4, 2, 2) = 1", "stone(2, 1) = 127", "ask(2) = 1");
    }

    private static void dueFraction(WellTalk x, int c, int saying, int well, long above, long below) {
        long a = above;
        long b = below;
        while (a != 0) {
            long rest = b % a;
            b = a;
            a = rest;
        }
        String call = "chance(" + c + ", " + saying + ", " + well + ", *) = ";
        Due.calls(x, call + above / b + " " + below / b);
    }

    private static void refusedChances() {
        Due.says("CHANCE: above, below. BAD. (As the least long and x more.)");
        WellTalk x = Due.village("g9;g5", "a0ia");
        Due.calls(x, "chance(-1, 0, 1, 0) = LEAST", "chance(17, 0, 1, 0) = LEAST", "chance(MIN, 0, 1, 0) = LEAST", "chance(MAX, 0, 1, 1) = LEAST");
        Due.calls(x, "chance(0, -1, 1, 0) = LEAST", "chance(0, 1, 1, 0) = LEAST", "chance(0, MIN, 1, 0) = LEAST", "chance(0, MAX, 1, 1) = LEAST");
        Due.calls(x, "chance(0, 0, -1, 0) = LEAST", "chance(0, 0, 8, 0) = LEAST", "chance(0, 0, MIN, 0) = LEAST", "chance(0, 0, MAX, 1) = LEAST");
        Due.calls(x, "chance(0, 0, 1, -1) = LEAST", "chance(0, 0, 1, 2) = LEAST", "chance(0, 0, 1, MIN) = LEAST", "chance(0, 0, 1, MAX) = LEAST");
        Due.calls(x, "chance(16, 0, 1, *) = 1 1 LEAST", "chance(0, 0, 7, *) = 0 1 LEAST", "chance(0, 0, 2, *) = 0 1", "count(8) = 0");
        Due.due("the refusal of a long", x.chance(17, 0, 0, 0), -9223372036854775806L);
    }

    private static void chances() {
        Due.says("CHANCE: each of EVENTS is by c sixteenths (0 to 16), by itself: "
            + "the chance that a SAYING is ever HEARD at a WELL (0 to 7): a FRACTION.");
        for (int c = 0; c <= 16; c++) {
            int not = 16 - c;
            dueFraction(Due.village("g9;g5;g1", "a0ia;a1ia", LID, 1, 1), c, 0, 1, not, 16);
            dueFraction(Due.village("g9;g5;g1", "a0ia;a1ia", COIN, 1, 1), c, 1, 0, c, 16);
            dueFraction(Due.village("g9;g5;g1", "a0ia;a0wa", LID, 1, 1), c, 1, 2, c, 16);
            dueFraction(Due.village("g9;g5;g1", "a0ia;a1ia", COIN, 1, 1, COIN, 1, 1), c, 1, 0, 256 - not * not, 256);
            dueFraction(Due.village("g9;g5;g1", "a0ia;a1ia", LID, 1, 1, LID, 1, 1, LID, 0, 1), c, 0, 1, not * not * not, 4096);
            dueFraction(Due.village("g9;g5;g1", "a0ia;a1ia", COIN, 1, 1, LID, 1, 0), c, 1, 0, c * not, 256);
            long all = 1L << 32;
            long coins = (long) c * c * c * c * c * c * c * c;
            long lids = (long) not * not * not * not * not * not * not * not;
            dueFraction(Due.village(Due.EIGHT_DOWN, "a7ia", COIN, 1, 7, COIN, 2, 6, COIN, 3, 5, COIN, 4, 4, COIN, 5, 3, COIN, 6, 2,
                COIN, 7, 1, DROUGHT, 8, 0), c, 0, 0, coins / Math.max(1, c) * 16, all);
            WellTalk full = Due.village("g9;g5", "a0ia", LID, 0, 0, LID, 0, 0, LID, 0, 0, LID, 0, 0, LID, 0, 0, LID, 0, 0,
                LID, 0, 0, LID, 0, 0);
            dueFraction(full, c, 0, 1, lids, all);
            WellTalk other = Due.village("g9;g5", "a1ia", COIN, 1, 1, COIN, 2, 1, COIN, 3, 1, COIN, 4, 1, COIN, 5, 1, COIN, 6, 1,
                COIN, 7, 1, COIN, 8, 1);
            dueFraction(other, c, 0, 0, all - lids, all);
        }
        Due.says("FRACTIONS are told in lowest terms, above and below (0 by 1).");
        WellTalk x = Due.village("g9;g5", "a0ia", COIN, 9, 0, COIN, 9, 0, COIN, 9, 0, COIN, 9, 0, COIN, 9, 0, COIN, 9, 0, COIN, 9, 0, COIN, 9, 0);
        Due.calls(x, "chance(1, 0, 1, *) = 1 1", "chance(16, 0, 1, *) = 1 1", "chance(0, 0, 1, *) = 1 1", "chance(7, 0, 0, *) = 0 1");
        Due.calls(x, "chance(0, 0, 0, *) = 0 1", "chance(16, 0, 7, *) = 0 1", "count(4) = 8", "hears(1) = 1");
    }

    private static void refusedDays() {
        Due.says("DAY: how many are GONE (what = 0), HEARD at THE LAST WELL (1). BAD.");
        WellTalk x = Due.village("g9;g5", "a0ia;a7ia");
        Due.calls(x, "day(1, -1, 0) = BAD", "day(1, 9, 0) = BAD", "day(1, MIN, 0) = BAD", "day(1, MAX, 1) = BAD");
        Due.calls(x, "day(1, 8, -1) = BAD", "day(1, 8, 2) = BAD", "day(1, 8, MIN) = BAD", "day(1, 8, MAX) = BAD");
        Due.calls(x, "day(1, 0, *) = 1 1 BAD", "day(MIN, 0, *) = 1 1", "day(MAX, 0, *) = 1 1", "day(-1, 0, *) = 1 1", "count(4) = 0");
        Due.says("in place of those told (none where there are no WELLS)");
        Due.calls(x, "event(1, 0, 0) = 1", "gone() = 3", "day(5, 0, *) = 1 1", "gone() = 3", "count(4) = 1", "back() = 0");
        Due.calls(Due.village("", "a0ia;a7wb"), "day(0, 8, *) = 2 0", "day(7, 0, *) = 2 0", "day(7, 9, 0) = BAD");
        Due.calls(new WellTalk(), "day(0, 8, *) = 0 0", "day(0, 9, 0) = BAD");
        Due.calls(Due.village("g5;g5", "a0ia;a1ia"), "day(1, 1, *) = 0 1", "day(1, 0, *) = 0 0");
        Due.calls(Due.village("g5", "n0ia"), "day(7, 3, *) = 0 0", "day(7, 4, *) = 1 0", "day(7, 8, *) = 1 0", "gone() = 0");
    }

    /** The lots were told once by other means than the class: a kind, an hour, one of three wells. */
    private static void days() {
        Due.says("LOTS of m: SEED becomes 1103515245 SEED and 12345, as ints that wrap; its upper 16 bits as a number from 0 on, modulo m.");
        Due.says("DAY by a SEED: n EVENTS (0 to 8), in place of those told (none where there are no WELLS): "
            + "of each a LOT of 3 (its kind), a LOT of 40 (its HOUR), a LOT of WELLS: how many SAYINGS are GONE; "
            + "how many are ever HEARD at THE LAST WELL.");
        dueDay(0, 0, 36, 0, 0, 18, 0, 1, 29, 1, 1, 29, 1, 0, 38, 0, 0, 8, 0, 1, 21, 2, 0, 25, 2);
        dueDay(1, 2, 6, 0, 0, 19, 1, 2, 27, 2, 0, 29, 2, 0, 28, 2, 1, 17, 2, 2, 14, 1, 0, 15, 0);
        dueDay(7, 0, 6, 2, 0, 11, 1, 0, 30, 2, 1, 13, 0, 2, 2, 1, 1, 25, 2, 0, 28, 2, 2, 39, 2);
        dueDay(-1, 1, 9, 1, 2, 33, 1, 1, 31, 0, 2, 13, 0, 0, 24, 1, 1, 39, 0, 0, 5, 2, 0, 34, 0);
        dueDay(Integer.MAX_VALUE, 2, 17, 0, 0, 1, 2, 2, 23, 1, 1, 21, 1, 2, 16, 0, 0, 7, 1, 1, 37, 0, 1, 2, 1);
        dueDay(Integer.MIN_VALUE, 2, 28, 1, 1, 26, 1, 0, 21, 2, 0, 21, 0, 1, 6, 2, 2, 16, 1, 2, 29, 0, 1, 33, 1);
        dueDay(12345, 2, 36, 0, 0, 15, 1, 0, 10, 1, 2, 12, 0, 2, 7, 0, 1, 1, 1, 0, 24, 0, 1, 31, 2);
        dueDay(65536, 1, 29, 2, 2, 31, 2, 2, 14, 2, 1, 2, 2, 1, 15, 2, 0, 13, 2, 0, 30, 0, 1, 22, 0);
        dueDay(3, 1, 27, 0, 1, 30, 1, 0, 23, 1, 0, 21, 0, 0, 33, 0, 0, 20, 1, 0, 8, 2, 0, 36, 1);
    }

    /** A day of n is as a village to which the first n of these EVENTS were told. */
    private static void dueDay(int seed, int... lots) {
        String[] sayings = {"a0iabcd;b0wabc;m0wab;n0ia;o0ib;k1wa;v0wab;x0wa", "a1ia;b0ia;f2wa;g1wab;i0wabc;q0ib;r1wa;t2ic"};
        String[] wells = {"g9;c5;s1", "s5;g0;c9", "c2;s7;g4"};
        for (String said : sayings) {
            for (String stood : wells) {
                WellTalk day = Due.village(stood, said);
                for (int n = 0; n <= 8; n++) {
                    WellTalk told = Due.village(stood, said, Arrays.copyOf(lots, 3 * n));
                    int last = stood.indexOf('1') > 0 ? 2 : stood.indexOf('0') > 0 ? 1 : 0;
                    Due.due("day(" + seed + ", " + n + ", 0)", day.day(seed, n, 0), Integer.bitCount(told.gone()));
                    Due.due("day(" + seed + ", " + n + ", 1)", day.day(seed, n, 1), Integer.bitCount(told.hears(last)));
                }
            }
        }
    }

    public static void main(String[] args) {
        drawing();
        whatComesOut();
        atTheEndsOfTheHours();
        never();
        refusedStones();
        stones();
        heights();
        buckets();
        asking();
        askingOfStoodAlone();
        refusedChances();
        chances();
        refusedDays();
        days();
        Due.end();
    }
}
