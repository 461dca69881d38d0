/** The edges that the document's head names of the way of a SAYING: LIDS, stays, COINS, DROUGHTS, letters. */
public final class WayEdgesTest {
    private static final int COIN = 0, LID = 1, DROUGHT = 2;

    private static void fromItsHourOn() {
        Due.says("A SAYING is in its WELL from its HOUR on, if there is such a one, and it is not COVERED then; else it is LOST.");
        WellTalk x = Due.village("g9;g5", "a0iab;x1wcd;c2ief");
        Due.calls(x, "at(*, 0, 0) = 0 1 1", "at(*, 0, 4) = 0 1 0", "at(0, 0, *) = 0 2 0 1 0");
        Due.calls(x, "at(0, 1, *) = NONE 2 2 3 0", "at(22, 1, *) = NONE 2 2 3 0", "at(23, 1, *) = 1 2 2 3 0", "at(24, 1, 0) = 1");
        Due.calls(x, "at(1, 2, *) = NONE 2 4 5 0", "at(2, 2, *) = NONE 0 NONE NONE 0", "at(39, 2, *) = NONE 0 NONE NONE 0");
        Due.calls(x, "gone() = 4", "count(5) = 1");
        for (int well = 0; well < 8; well++) {
            WellTalk few = Due.village(Due.EIGHT_DOWN.substring(0, Math.max(0, 3 * well - 1)), "b" + well + "ia");
            Due.calls(few, "count(0) = " + well, "at(0, 0, *) = NONE 1 0 0 0", "at(1, 0, *) = NONE 0 NONE NONE 0", "gone() = 1");
            WellTalk enough = Due.village(Due.EIGHT_DOWN.substring(0, 3 * well + 2), "b" + well + "ia");
            Due.calls(enough, "at(0, 0, *) = NONE 1 0 0 0", "at(1, 0, *) = " + well + " 1 0 0 0", "gone() = 0");
        }
    }

    private static void coveredWhenSaid() {
        Due.says("With a LID of it a WELL is COVERED in that HOUR and the two behind it.");
        int[] hours = {0, 1, 2, 3, 22, 23};
        for (int hour : hours) {
            for (int lid = 0; lid < 40; lid++) {
                WellTalk x = Due.village("g9;g5", (char) ('a' + hour) + "0ia", LID, lid, 0);
                boolean isCovered = hour == lid || hour == lid + 1 || hour == lid + 2;
                Due.due("gone() of a lid in " + lid + ", said in " + hour, x.gone(), isCovered ? 1 : 0);
                Due.due("at() of a lid in " + lid + ", said in " + hour, x.at(hour, 0, 0), isCovered ? -1 : 0);
            }
        }
        Due.calls(Due.village("g9;g5", "a0ia", LID, 0, 1, COIN, 0, 0, DROUGHT, 0, 0), "at(0, 0, 0) = 0", "gone() = 1");
        Due.calls(Due.village("g9;g5", "b0ia", COIN, 1, 0, DROUGHT, 1, 0), "at(1, 0, 0) = 0", "at(2, 0, 0) = 1");
        WellTalk two = Due.village("g9", "a0ia;d0ia;e0ia;f0ia", LID, 0, 0, LID, 2, 0);
        Due.calls(two, "gone() = 7", "back() = 1", "gone() = 1");
    }

    private static void coveredWhenItComes() {
        Due.says("With a LID of it a WELL is COVERED in that HOUR and the two behind it.");
        for (int lid = 0; lid < 40; lid++) {
            WellTalk x = Due.village("g9;g6;g3", "d0ia;x0ia", LID, lid, 1);
            Due.due("at(4, 0, 0) of a lid in " + lid, x.at(4, 0, 0), lid >= 2 && lid <= 4 ? 2 : 1);
            Due.due("at(24, 1, 0) of a lid in " + lid, x.at(24, 1, 0), lid >= 22 && lid <= 24 ? 2 : 1);
        }
        WellTalk late = Due.village("g9;g5", "a0ia", LID, 38, 0, LID, 39, 0, LID, 38, 1, LID, 39, 1);
        Due.calls(late, "at(*, 0, 0) = 0 1 1", "gone() = 0", "at(39, 0, 0) = 1");
        WellTalk seventh = Due.village(Due.EIGHT_DOWN, "a6ia", LID, 1, 7);
        Due.calls(seventh, "at(*, 0, 0) = 6 NONE", "gone() = 1");
    }

    private static void stays() {
        Due.says("It stays in a WELL for 1 HOUR, in sand for 2;");
        WellTalk x = Due.village("g9;c7;s5;g3;s1", "a0iabcd;b2ia;b4ia;b1ia");
        Due.calls(x, "at(*, 0, 0) = 0 1 2 2 3 4 4 4", "at(*, 1, 0) = NONE 2 2 3 4 4", "at(*, 2, 0) = NONE 4 4 4 4");
        Due.calls(x, "at(*, 3, 0) = NONE 1 2 2 3 4", "at(*, 0, 4) = 0 1 1 0 1 1 0 0", "at(39, 0, 0) = 4");
        WellTalk top = Due.village("s9;g1", "a0ia;x0ia");
        Due.calls(top, "at(*, 0, 0) = 0 0 1 1", "at(24, 1, 0) = 0", "at(25, 1, 0) = 1");
    }

    private static void coinsInThatHour() {
        Due.says("in the HOUR behind these it goes: UP, if in that HOUR there is a COIN of the WELL in which it is, else DOWN.");
        for (int hour = 0; hour < 40; hour++) {
            for (int well = 0; well < 3; well++) {
                WellTalk x = Due.village("g9;g5;g1", "b1ia;x1ia", COIN, hour, well);
                Due.due("coin " + hour + ", " + well, x.at(2, 0, 0), hour == 2 && well == 1 ? 0 : 2);
                Due.due("coin " + hour + ", " + well, x.at(24, 1, 0), hour == 24 && well == 1 ? 0 : 2);
                WellTalk sand = Due.village("g9;s5;g1", "b1ia", COIN, hour, well);
                Due.due("coin in sand " + hour + ", " + well, sand.at(2, 0, 0), 1);
                Due.due("coin in sand " + hour + ", " + well, sand.at(3, 0, 0), hour == 3 && well == 1 ? 0 : 2);
            }
        }
        Due.calls(Due.village("g9;g5;g1", "b1ia", COIN, 2, 1, COIN, 2, 1), "at(*, 0, 0) = NONE 1 0 1 2");
        Due.calls(Due.village("g9;g5;g1", "a2ia", COIN, 1, 2, COIN, 2, 1), "at(*, 0, 0) = 2 1 0 1 2 2");
        WellTalk all = Due.village(Due.EIGHT_DOWN, "a7ia", COIN, 1, 7, COIN, 2, 6, COIN, 3, 5, COIN, 4, 4, COIN, 5, 3,
            COIN, 6, 2, COIN, 7, 1, COIN, 8, 0);
        Due.calls(all, "at(*, 0, 0) = 7 6 5 4 3 2 1 0 0 1 2 3 4 5 6 7 7", "count(6) = 14");
        WellTalk last = Due.village("g9;g0", "a1ia", COIN, 39, 1);
        Due.calls(last, "at(38, 0, 0) = 1", "at(39, 0, *) = 0 1 0 0 1");
        WellTalk both = Due.village("g9;g5;g1", "a0ia;a1ia", COIN, 1, 0, COIN, 1, 1);
        Due.calls(both, "at(*, 0, 0) = 0 0 1 2", "at(*, 1, 0) = 1 0 1 2");
    }

    private static void staysAsLongAgain() {
        Due.says("If that is NONE, it stays as long again.");
        for (int coin = 1; coin < 40; coin++) {
            WellTalk granite = Due.village("g5;g0", "a1ia", COIN, coin, 1);
            Due.due("hears(0) by a coin in " + coin, granite.hears(0), 1);
            Due.due("soon(0) by a coin in " + coin, granite.soon(0), coin);
            WellTalk sand = Due.village("g5;s0", "a1ia;b1ib", COIN, coin, 1);
            Due.due("hears(0) by a coin in sand in " + coin, sand.hears(0), coin == 1 ? 0 : coin % 2 == 0 ? 1 : 2);
        }
        Due.calls(Due.village("g9;g1", "a0ia", COIN, 1, 0), "at(*, 0, 0) = 0 0 1 1", "at(*, 0, 4) = 0 0 1 0");
        Due.calls(Due.village("g9;g1", "a0ia", COIN, 1, 0, COIN, 2, 0, COIN, 3, 0), "at(*, 0, 0) = 0 0 0 0 1");
        Due.calls(Due.village("s9;g1", "a0ia", COIN, 2, 0), "at(*, 0, 0) = 0 0 0 0 1", "at(*, 0, 4) = 0 0 0 0 1 0");
        Due.calls(Due.village("s9;g1", "a0ia", COIN, 2, 0, COIN, 4, 0), "at(*, 0, 0) = 0 0 0 0 0 0 1");
        Due.calls(Due.village("s9;g1", "a0ia", COIN, 2, 0, COIN, 3, 0), "at(*, 0, 0) = 0 0 0 0 1");
        Due.calls(Due.village("s9;g1", "a0ia", COIN, 1, 0, COIN, 3, 0), "at(*, 0, 0) = 0 0 1 1");
        WellTalk chalk = Due.village("g9;c1", "a0iab;a1ia", COIN, 20, 0);
        Due.calls(chalk, "at(*, 0, 1) = 2 1 1 1", "at(39, 0, 1) = 1", "at(*, 0, 4) = 0 1 0 0", "at(39, 1, *) = 1 1 0 0 0");
        WellTalk wood = Due.village("g9;g1", "a0wab", COIN, 5, 1);
        Due.calls(wood, "at(*, 0, 1) = 2 2 2 2 2 1 1", "at(*, 0, 2) = 0 0 0 0 0 1 1", "count(6) = 3");
        WellTalk like = Due.village("g5;s5;c5", "a0ia;a1wa;a2ia", COIN, 1, 0, COIN, 2, 1, COIN, 1, 2);
        Due.calls(like, "at(39, *, 0) = 0 1 2", "count(6) = 0", "gone() = 0", "at(39, *, 1) = 1 1 1");
    }

    private static void goesOnTheSameWay() {
        Due.says("If it is COVERED in that HOUR, it goes on the same way, from there, until one is not; if that is NONE, it is LOST.");
        String four = "g9;g6;g3;g0";
        Due.calls(Due.village(four, "a0ia", LID, 1, 1), "at(*, 0, 0) = 0 2 3 3", "at(*, 0, 4) = 0 1 1 0", "hears(1) = 0");
        Due.calls(Due.village(four, "a0ia", LID, 1, 1, LID, 1, 2), "at(*, 0, 0) = 0 3 3", "hears(2) = 0");
        Due.calls(Due.village(four, "a0ia", LID, 1, 2, LID, 1, 3), "at(*, 0, 0) = 0 1 NONE");
        Due.calls(Due.village(four, "a0iab", LID, 1, 1, LID, 1, 2, LID, 1, 3), "at(1, 0, *) = NONE 0 NONE NONE 0", "gone() = 1");
        Due.calls(Due.village(four, "a3ia", COIN, 1, 3, LID, 1, 2), "at(*, 0, 0) = 3 1 3");
        Due.calls(Due.village(four, "a3ia", COIN, 1, 3, LID, 1, 2, LID, 1, 1), "at(*, 0, 0) = 3 0 3");
        Due.calls(Due.village(four, "a3ia", COIN, 1, 3, LID, 1, 2, LID, 1, 1, LID, 1, 0), "at(*, 0, 0) = 3 NONE", "gone() = 1");
        Due.calls(Due.village(four, "a0ia", LID, 1, 1, COIN, 1, 1, COIN, 1, 2, COIN, 1, 3), "at(*, 0, 0) = 0 2 3");
        Due.calls(Due.village(four, "a2ia", COIN, 1, 2, LID, 1, 1, LID, 1, 3), "at(*, 0, 0) = 2 0 2");
        Due.calls(Due.village("g9;g5;g5;g0", "a0ia", LID, 1, 1), "at(*, 0, 0) = 0 3 3");
        Due.calls(Due.village("g0;g5;g5;g9", "a0ia", COIN, 1, 0, LID, 1, 1), "at(*, 0, 0) = 0 3 0");
        Due.calls(Due.village("g9;g5;g5", "a0ia", LID, 1, 1), "at(*, 0, 0) = 0 NONE");
        Due.calls(Due.village("g9;g5;s3;g1", "a0ia", LID, 1, 1), "at(*, 0, 0) = 0 2 2 3");
        Due.calls(Due.village("s9;g5;g3", "a0ia", LID, 1, 1), "at(*, 0, 0) = 0 0 2 2");
        Due.calls(Due.village("g9;g5;g3", "a0ia", LID, 2, 1), "at(*, 0, 0) = 0 1 2 2");
        WellTalk six = Due.village(Due.EIGHT_DOWN, "a0ia", LID, 1, 1, LID, 1, 2, LID, 1, 3, LID, 1, 4, LID, 1, 5, LID, 1, 6);
        Due.calls(six, "at(*, 0, 0) = 0 7 7", "event(1, 1, 7) = 7", "at(*, 0, 0) = 0 NONE", "gone() = 1");
        WellTalk rise = Due.village(Due.EIGHT_DOWN, "a7ia", COIN, 1, 7, LID, 1, 1, LID, 1, 2, LID, 1, 3, LID, 1, 4, LID, 1, 5, LID, 1, 6);
        Due.calls(rise, "at(*, 0, 0) = 7 0 7", "event(1, 1, 0) = 8", "at(*, 0, 0) = 7 NONE", "gone() = 1");
    }

    /** A LID is felt by what comes, not by what is there. */
    private static void coveredWhereItIs() {
        Due.says("If it is COVERED in that HOUR, it goes on the same way, from there, until one is not; if that is NONE, it is LOST.");
        Due.calls(Due.village("s9;g5", "a0ia", LID, 1, 0), "at(*, 0, 0) = 0 0 1", "gone() = 0");
        Due.calls(Due.village("g9;g5", "a0ia", LID, 1, 0), "at(*, 0, 0) = 0 1 1", "gone() = 0");
        Due.calls(Due.village("g9;g5", "a1ia", LID, 1, 1, LID, 4, 1, COIN, 3, 1), "at(*, 0, 0) = 1 1 1 0 NONE", "gone() = 1");
        Due.calls(Due.village("g9;g5", "a1ia", LID, 1, 1, LID, 4, 1), "at(6, 0, 0) = 1", "gone() = 0");
        Due.calls(Due.village("g9;g5", "a0ia", COIN, 1, 0, LID, 1, 0), "at(*, 0, 0) = 0 0 1", "gone() = 0");
    }

    private static void droughts() {
        Due.says("But in an HOUR with a DROUGHT all that are since an earlier HOUR in any other WELL go to THE LAST WELL, "
            + "however long they have stayed; they are LOST, if that is COVERED then.");
        String hill = "g9;s6;g3;g0";
        WellTalk x = Due.village(hill, "a0ia;a1ia;a2ia;a3ia;b0ia;c0ia;a7ia;b1wab", DROUGHT, 1, 0);
        Due.calls(x, "at(1, *, 0) = 3 3 3 3 0 NONE NONE 1", "at(1, *, 4) = 1 1 1 0 0 0 0 0", "at(0, *, 0) = 0 1 2 3 NONE NONE NONE NONE");
        Due.calls(x, "at(2, *, 0) = 3 3 3 3 1 0 NONE 1", "babel(*) = 1 3", "gone() = 64");
        for (int hour = 0; hour < 40; hour++) {
            WellTalk one = Due.village("g9;g8;g0", "b0ia", DROUGHT, hour, 5);
            Due.due("at(2) with a drought in " + hour, one.at(2, 0, 0), hour == 2 ? 2 : 1);
            WellTalk sand = Due.village("s9;g8;g0", "b0ia", DROUGHT, hour, 0);
            Due.due("at(2) in sand with a drought in " + hour, sand.at(2, 0, 0), hour == 2 ? 2 : 0);
            Due.due("at(3) in sand with a drought in " + hour, sand.at(3, 0, 0), hour == 2 || hour == 3 ? 2 : 1);
        }
        Due.calls(Due.village("g9;g5;g0", "a1ia", COIN, 1, 1, DROUGHT, 1, 0), "at(*, 0, 0) = 1 2 2");
        Due.calls(Due.village("g9;g5;g0", "a0ia;a2ib;b0ia", DROUGHT, 1, 0, LID, 1, 2), "at(1, *, 0) = NONE 2 0", "at(2, *, 0) = NONE 2 1",
            "at(3, *, 0) = NONE 2 NONE", "gone() = 5");
        Due.calls(Due.village("g9;g5;g0", "a0ia", DROUGHT, 1, 0, LID, 1, 1, LID, 1, 0), "at(*, 0, 0) = 0 2 2", "gone() = 0");
        Due.calls(Due.village("g9;g5;g0", "a0ia", DROUGHT, 3, 0, LID, 1, 2), "at(*, 0, 0) = 0 1 NONE", "gone() = 1");
        Due.calls(Due.village("g9;g0", "x0ia", DROUGHT, 39, 0, LID, 22, 1, LID, 24, 1), "gone() = 1");
        WellTalk late = Due.village("g9;g5;g0", "a2ia", COIN, 38, 2, DROUGHT, 39, 0);
        Due.calls(late, "at(38, 0, 0) = 1", "at(39, 0, *) = 2 1 0 0 1", "event(1, 37, 2) = 3", "at(39, 0, 1) = 0", "gone() = 1");
    }

    private static void theLastOfLikeOnes() {
        Due.says("THE LAST WELL is the lowest of all, of like ones the least.");
        WellTalk x = Due.village("g5;g0;s0;g0", "a0ia;a1ia;a2ia;a3ia", DROUGHT, 1, 0);
        Due.calls(x, "at(1, *, 0) = 1 1 1 1", "at(1, *, 4) = 1 0 1 1", "at(39, *, 0) = 1 1 1 1", "hears(1) = 13");
        Due.calls(Due.village("g5;g5", "a0ia;a1ia", DROUGHT, 1, 0), "at(1, *, 0) = 0 0", "hears(0) = 2", "count(6) = 1");
        Due.calls(Due.village("s5", "a0ia", DROUGHT, 1, 0, LID, 1, 0), "at(39, 0, *) = 0 1 0 0 0", "count(6) = 0");
        Due.calls(Due.village(Due.EIGHT_DOWN, "a0ia", DROUGHT, 1, 0), "at(*, 0, 0) = 0 7 7");
        Due.calls(Due.village("g0;" + Due.EIGHT_DOWN.substring(3), "a7ia", DROUGHT, 1, 0), "at(*, 0, 0) = 7 0 0");
    }

    /** In THE LAST WELL a DROUGHT does nothing; what has come by it stays there as after any coming. */
    private static void staysBehindADrought() {
        Due.says("But in an HOUR with a DROUGHT all that are since an earlier HOUR in any other WELL go to THE LAST WELL, "
            + "however long they have stayed;");
        Due.calls(Due.village("g9;s0", "a0ia", DROUGHT, 1, 0, COIN, 2, 1), "at(*, 0, 0) = 0 1 1 1");
        Due.calls(Due.village("g9;s0", "a0ia", DROUGHT, 1, 0, COIN, 3, 1), "at(*, 0, 0) = 0 1 1 0 1");
        Due.calls(Due.village("g9;s5;s0", "a1ia", DROUGHT, 1, 0, COIN, 2, 2), "at(*, 0, 0) = 1 2 2 2");
        Due.calls(Due.village("g9;s5;s0", "a1ia", DROUGHT, 1, 0, COIN, 3, 2), "at(*, 0, 0) = 1 2 2 1 1 2");
        Due.calls(Due.village("s9;g0", "a0ia", DROUGHT, 1, 0, COIN, 2, 1), "at(*, 0, 0) = 0 1 0 0 1");
        Due.calls(Due.village("g9;s0", "a1ia", DROUGHT, 1, 0, COIN, 2, 1), "at(*, 0, 0) = 1 1 0 1");
        Due.calls(Due.village("g9;s0", "a1ia", DROUGHT, 2, 0, COIN, 3, 1), "at(*, 0, 0) = 1 1 1 1");
        Due.calls(Due.village("g9;s0", "a1ia", DROUGHT, 2, 0, COIN, 4, 1), "at(*, 0, 0) = 1 1 1 1 0");
        Due.calls(Due.village("g9;g0", "a1ia", DROUGHT, 1, 0, COIN, 1, 1), "at(*, 0, 0) = 1 0 1");
        Due.calls(Due.village("g9;g5;g0", "a0wab", DROUGHT, 1, 0, DROUGHT, 2, 0, DROUGHT, 3, 0), "at(*, 0, 1) = 2 2 2 2 2", "count(6) = 1");
    }

    private static void woodenOnes() {
        Due.says("With each second WELL to which it so comes (those COVERED that it goes on from are none; the second, the fourth ..) "
            + "a SAYING of a wooden bucket loses the first letter that is left of its WORD;");
        WellTalk x = Due.village("g9;g1", "a0wabcd;a0iabcd;a0wab;a0wa", COIN, 2, 1, COIN, 4, 1, COIN, 6, 1, COIN, 8, 1);
        Due.calls(x, "at(*, 0, 0) = 0 1 0 1 0 1 0 1 NONE NONE", "at(*, 0, 1) = 4 4 3 3 2 2 1 1 0 0");
        Due.calls(x, "at(*, 0, 2) = 0 0 1 1 2 2 3 3 NONE NONE", "at(*, 0, 3) = 3 3 3 3 3 3 3 3 NONE NONE");
        Due.calls(x, "at(*, 0, 4) = 0 1 1 1 1 1 1 1 0 0", "at(*, 1, 1) = 4 4 4 4 4 4 4 4 4 4", "at(8, 1, *) = 0 4 0 3 1");
        Due.calls(x, "at(*, 2, 1) = 2 2 1 1 0 0", "at(*, 3, 1) = 1 1 0 0", "gone() = 13", "count(6) = 20");
        Due.calls(x, "event(0, 39, 0) = 5", "at(*, 0, 2) = 0 0 1 1 2 2 3 3 NONE", "back() = 4", "at(0, 0, *) = 0 4 0 3 0");
        WellTalk covered = Due.village("g9;g8;g7;g6", "a0wabcd", LID, 1, 1);
        Due.calls(covered, "at(*, 0, 1) = 4 4 3 3", "at(*, 0, 0) = 0 2 3 3");
        WellTalk dry = Due.village("g9;g8;g7;g1", "a0wabcd;a0wa", DROUGHT, 2, 0);
        Due.calls(dry, "at(*, 0, 1) = 4 4 3 3", "at(*, 1, 0) = 0 1 NONE", "gone() = 2");
        WellTalk down = Due.village(Due.EIGHT_DOWN, "a0wabcd;a0wabc;a0wab;a0wa");
        Due.calls(down, "at(*, 0, 1) = 4 4 3 3 2 2 1 1 1", "at(*, 1, 1) = 3 3 2 2 1 1 0", "at(*, 2, 1) = 2 2 1 1 0", "at(*, 3, 1) = 1 1 0");
    }

    private static void chalk() {
        Due.says("then, if it comes to one in chalk, any loses its last one.");
        WellTalk x = Due.village("c9;c8;c7;c6;c5;c4", "a0iabcd;a0ia;a0iab;a5ia");
        Due.calls(x, "at(*, 0, 1) = 4 3 2 1 0 0", "at(*, 0, 3) = 3 2 1 0 NONE NONE", "at(*, 0, 2) = 0 0 0 0 NONE NONE");
        Due.calls(x, "at(*, 0, 0) = 0 1 2 3 NONE NONE", "at(*, 0, 4) = 0 1 1 1 0 0", "at(*, 1, 1) = 1 0 0", "at(*, 2, 1) = 2 1 0");
        Due.calls(x, "at(39, 3, *) = 5 1 0 0 0", "gone() = 7", "hears(4) = 0");
        Due.calls(Due.village("g9;c8;g7", "a0ia", LID, 1, 1), "at(*, 0, 0) = 0 2 2", "at(*, 0, 1) = 1 1 1");
        Due.calls(Due.village("g9;g8;c1", "a0iab", DROUGHT, 1, 0), "at(*, 0, 1) = 2 1 1", "at(*, 0, 3) = 1 0 0");
        Due.calls(Due.village("c9;g1", "a1iab", COIN, 1, 1), "at(*, 0, 1) = 2 1 1", "at(*, 0, 0) = 1 0 1");
    }

    private static void woodAndChalk() {
        Due.says("Without a letter it is LOST. Else it is HEARD there in that HOUR.");
        WellTalk x = Due.village("g9;g8;c7;g6", "a0wefgh;a0wefg;a0wef;a0we;a0ie;a0ief");
        Due.calls(x, "at(2, 0, *) = 2 2 5 6 1", "at(2, 1, *) = 2 1 5 5 1", "at(2, 2, *) = NONE 0 NONE NONE 0");
        Due.calls(x, "at(2, 3, *) = NONE 0 NONE NONE 0", "at(2, 4, *) = NONE 0 NONE NONE 0", "at(2, 5, *) = 2 1 4 4 1");
        Due.calls(x, "at(3, *, 0) = 3 3 NONE NONE NONE 3", "hears(*) = 0 63 35 35", "gone() = 28", "count(6) = 12");
        WellTalk all = Due.village("c9;c8;c7;c6;c5;c4", "a0wabcd;a0wabc");
        Due.calls(all, "at(*, 0, 1) = 4 3 1 0", "at(*, 0, 2) = 0 0 1 NONE", "at(*, 0, 3) = 3 2 1 NONE", "at(*, 1, 1) = 3 2 0 0");
    }

    public static void main(String[] args) {
        fromItsHourOn();
        coveredWhenSaid();
        coveredWhenItComes();
        stays();
        coinsInThatHour();
        staysAsLongAgain();
        goesOnTheSameWay();
        coveredWhereItIs();
        droughts();
        theLastOfLikeOnes();
        staysBehindADrought();
        woodenOnes();
        chalk();
        woodAndChalk();
        Due.end();
    }
}
