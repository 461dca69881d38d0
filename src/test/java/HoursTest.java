/** Promises 11 to 15: where sayings are when, what is left of them, who hears what. */
public final class HoursTest {
    private static final int WELL = 0, LEFT = 1, FIRST = 2, LAST = 3, HEARD = 4;

    private static void downTheHill() {
        WellTalk x = Due.village("g9;g5;s3;g0", "b0icde;b2wab");
        Due.dueHours(x, 0, WELL, -1, 0, 1, 2, 2, 3, 3, 3);
        Due.dueHours(x, 0, LEFT, 3, 3, 3, 3, 3, 3, 3, 3);
        Due.dueHours(x, 0, FIRST, 2, 2, 2, 2);
        Due.dueHours(x, 0, LAST, 4, 4, 4, 4);
        Due.dueHours(x, 0, HEARD, 0, 0, 1, 1, 0, 1, 0, 0);
        Due.dueHours(x, 1, WELL, -1, 2, 2, 3, 3);
        Due.dueHours(x, 1, HEARD, 0, 0, 0, 1, 0);
        Due.due("at(39, 0, 0)", x.at(39, 0, WELL), 3);
        int[][] wrong = {{-1, 0, 0}, {40, 0, 0}, {0, -1, 0}, {0, 2, 0}, {0, 0, -1}, {0, 0, 5}};
        for (int[] w : wrong) {
            Due.due("at(" + w[0] + ", " + w[1] + ", " + w[2] + ")", x.at(w[0], w[1], w[2]), -2);
        }
    }

    private static void likeOnes() {
        WellTalk x = Due.village("g5;g3;g3;g4", "a0ia;a2ia");
        Due.dueHours(x, 0, WELL, 0, 3, 1, 1, 1, 1);
        Due.dueHours(x, 1, WELL, 2, 2, 2, 2, 2, 2);
        Due.events(x, 2, 4, 0);
        Due.dueHours(x, 1, WELL, 2, 2, 2, 2, 1, 1);
        Due.dueHours(x, 1, HEARD, 0, 0, 0, 0, 1, 0);
        Due.dueHours(x, 0, WELL, 0, 3, 1, 1, 1, 1);
        Due.dueHours(x, 0, HEARD, 0, 1, 1, 0, 0, 0);
    }

    private static void noSuchWell() {
        WellTalk x = Due.village("g5;g3", "c2iabc;c1iabc");
        Due.dueHours(x, 0, WELL, -1, -1, -1, -1);
        Due.dueHours(x, 0, LEFT, 3, 3, 0, 0);
        Due.dueHours(x, 0, FIRST, 0, 0, -1, -1);
        Due.dueHours(x, 0, LAST, 2, 2, -1, -1);
        Due.dueHours(x, 0, HEARD, 0, 0, 0, 0);
        Due.due("gone()", x.gone(), 1);
        Due.type(x, 0, ";g7");
        Due.dueHours(x, 0, WELL, -1, -1, 2, 0, 1);
        Due.due("gone()", x.gone(), 0);
        Due.type(x, 0, ";");
        Due.due("gone() with a fault", x.gone(), 3);
        Due.dueHours(x, 1, LEFT, 3, 3, 0);
    }

    private static void coins() {
        WellTalk x = Due.village("g9;s5;g1", "a1ia;a0ia;a2ia");
        Due.events(x, 0, 1, 1);
        Due.dueHours(x, 0, WELL, 1, 1, 2, 2);
        Due.events(x, 0, 2, 1);
        Due.dueHours(x, 0, WELL, 1, 1, 0, 1, 1, 2, 2);
        Due.dueHours(x, 0, HEARD, 0, 0, 1, 1, 0, 1, 0);
        Due.events(x, 0, 1, 0);
        Due.dueHours(x, 1, WELL, 0, 0, 1, 1, 2);
        Due.dueHours(x, 1, HEARD, 0, 0, 1, 0, 1);
        Due.events(x, 0, 5, 2, 0, 6, 1, 0, 7, 1);
        Due.dueHours(x, 2, WELL, 2, 2, 2, 2, 2, 1, 1, 0, 1, 1, 2);
        Due.events(x, 0, 0, 2, 0, 30, 5);
        Due.dueHours(x, 2, WELL, 2, 2, 2, 2, 2, 1, 1, 0, 1, 1, 2);
    }

    private static void sandStaysAsLongAgain() {
        WellTalk x = Due.village("s0;g5", "a0iab");
        Due.events(x, 0, 3, 0);
        Due.dueHours(x, 0, WELL, 0, 0, 0, 0, 0, 0);
        Due.events(x, 0, 4, 0);
        Due.dueHours(x, 0, WELL, 0, 0, 0, 0, 1, 0, 0, 0);
        Due.events(x, 0, 8, 0);
        Due.dueHours(x, 0, WELL, 0, 0, 0, 0, 1, 0, 0, 0, 0, 0);
        Due.events(x, 0, 9, 0);
        Due.dueHours(x, 0, WELL, 0, 0, 0, 0, 1, 0, 0, 0, 0, 1, 0);
        WellTalk top = Due.village("s9;g1", "a0ia");
        Due.events(top, 0, 2, 0);
        Due.dueHours(top, 0, WELL, 0, 0, 0, 0, 1, 1);
        WellTalk granite = Due.village("g9;g1", "a0ia");
        Due.events(granite, 0, 1, 0, 0, 2, 0);
        Due.dueHours(granite, 0, WELL, 0, 0, 0, 1, 1);
        Due.dueHours(granite, 0, HEARD, 0, 0, 0, 1, 0);
    }

    private static void lidsLastThreeHours() {
        int[] want = {1, 1, 2, 2, 2, 1, 1};
        for (int h = 0; h < want.length; h++) {
            WellTalk x = Due.village("g9;g6;g3", "d0ia");
            Due.events(x, 1, h, 1);
            Due.due("at(4, 0, 0) with a lid at " + h, x.at(4, 0, WELL), want[h]);
            Due.due("at(4, 0, 4) with a lid at " + h, x.at(4, 0, HEARD), 1);
            Due.due("hears(1) with a lid at " + h, x.hears(1), want[h] == 1 ? 1 : 0);
        }
        int[] left = {1, 0, 0, 0, 1};
        for (int h = 0; h < left.length; h++) {
            WellTalk x = Due.village("g9;g6", "d0ia");
            Due.events(x, 1, h, 0);
            Due.due("at(3, 0, 1) with a lid at " + h, x.at(3, 0, LEFT), left[h]);
            Due.due("at(2, 0, 1) with a lid at " + h, x.at(2, 0, LEFT), 1);
        }
        WellTalk late = Due.village("g9;g6", "a1ia");
        Due.events(late, 1, 38, 0, 1, 39, 0, 0, 38, 1);
        Due.due("at(39, 0, 0)", late.at(39, 0, WELL), -1);
        Due.due("gone()", late.gone(), 1);
    }

    private static void lidsPassOn() {
        WellTalk x = Due.village("g9;g6;g3;g0", "a0ia");
        Due.events(x, 1, 1, 1, 0, 1, 1);
        Due.dueHours(x, 0, WELL, 0, 2, 3, 3);
        Due.dueHours(x, 0, HEARD, 0, 1, 1, 0);
        Due.events(x, 1, 1, 2);
        Due.dueHours(x, 0, WELL, 0, 3, 3, 3);
        Due.events(x, 1, 1, 0);
        Due.dueHours(x, 0, WELL, 0, 3, 3, 3);
        Due.events(x, 1, 1, 3);
        Due.dueHours(x, 0, WELL, 0, -1, -1);
        Due.dueHours(x, 0, LEFT, 1, 0, 0);
        Due.due("gone()", x.gone(), 1);
        WellTalk up = Due.village("g9;g6;g3;g0", "a3ia");
        Due.events(up, 0, 1, 3, 1, 1, 2);
        Due.dueHours(up, 0, WELL, 3, 1, 3, 3);
        Due.events(up, 1, 1, 1);
        Due.dueHours(up, 0, WELL, 3, 0, 3, 3);
        Due.events(up, 1, 1, 0);
        Due.dueHours(up, 0, WELL, 3, -1, -1);
        WellTalk like = Due.village("g9;g5;g5;g0", "a0ia");
        Due.events(like, 1, 1, 1);
        Due.dueHours(like, 0, WELL, 0, 3, 3);
        WellTalk stays = Due.village("g9;g5", "a1ia");
        Due.events(stays, 1, 1, 1, 1, 1, 0);
        Due.dueHours(stays, 0, WELL, 1, 1, 1);
    }

    private static void droughts() {
        WellTalk x = Due.village("g9;s6;g3;g0", "a0ia;c0ia;a3ia;a1ia");
        Due.events(x, 2, 2, 5);
        Due.dueHours(x, 0, WELL, 0, 1, 3, 3);
        Due.dueHours(x, 0, HEARD, 0, 1, 1, 0);
        Due.dueHours(x, 1, WELL, -1, -1, 0, 1, 1, 2);
        Due.dueHours(x, 2, WELL, 3, 3, 3, 3);
        Due.dueHours(x, 2, HEARD, 0, 0, 0, 0);
        Due.dueHours(x, 3, WELL, 1, 1, 3, 3);
        Due.events(x, 2, 1, 0);
        Due.dueHours(x, 0, WELL, 0, 3, 3, 3);
        Due.dueHours(x, 3, WELL, 1, 3, 3, 3);
        Due.events(x, 0, 2, 3);
        Due.dueHours(x, 2, WELL, 3, 3, 2, 3);
        Due.dueHours(x, 0, WELL, 0, 3, 2, 3);
        Due.events(x, 1, 1, 3);
        Due.dueHours(x, 0, WELL, 0, -1, -1);
        Due.dueHours(x, 2, WELL, 3, 3, 2, -1);
        Due.due("gone()", x.gone(), 13);
        WellTalk zero = Due.village("g9;g3", "a0ia");
        Due.events(zero, 2, 0, 0);
        Due.dueHours(zero, 0, WELL, 0, 1, 1);
        WellTalk coin = Due.village("g9;g3;g0", "a1ia");
        Due.events(coin, 2, 1, 0, 0, 1, 1);
        Due.dueHours(coin, 0, WELL, 1, 2, 2);
    }

    private static void droughtsAndStays() {
        WellTalk x = Due.village("g9;g5;s0", "a0ia");
        Due.events(x, 2, 2, 0, 0, 3, 2);
        Due.dueHours(x, 0, WELL, 0, 1, 2, 2, 2, 2);
        Due.events(x, 0, 4, 2);
        Due.dueHours(x, 0, WELL, 0, 1, 2, 2, 1, 2);
        WellTalk in = Due.village("g5;s0", "a0ia");
        Due.events(in, 2, 2, 0, 0, 3, 1);
        Due.dueHours(in, 0, WELL, 0, 1, 1, 0, 1);
    }

    private static void woodAndChalk() {
        WellTalk x = Due.village("g9;g8;g7;g6;g5;g4;g3;g2", "a0wabcd;a0wab;a0iabcd");
        Due.dueHours(x, 0, LEFT, 4, 4, 3, 3, 2, 2, 1, 1, 1);
        Due.dueHours(x, 0, FIRST, 0, 0, 1, 1, 2, 2, 3, 3, 3);
        Due.dueHours(x, 0, LAST, 3, 3, 3, 3, 3, 3, 3, 3, 3);
        Due.dueHours(x, 1, LEFT, 2, 2, 1, 1, 0, 0);
        Due.dueHours(x, 1, WELL, 0, 1, 2, 3, -1, -1);
        Due.dueHours(x, 1, HEARD, 0, 1, 1, 1, 0, 0);
        Due.dueHours(x, 1, FIRST, 0, 0, 1, 1, -1, -1);
        Due.dueHours(x, 2, LEFT, 4, 4, 4, 4, 4, 4, 4, 4, 4);
        Due.due("hears(4)", x.hears(4), 5);
        WellTalk chalk = Due.village("c9;c8;g7;c6;g5;c1", "a0iefgh;a0ief");
        Due.dueHours(chalk, 0, LEFT, 4, 3, 3, 2, 2, 1, 1);
        Due.dueHours(chalk, 0, FIRST, 4, 4, 4, 4, 4, 4, 4);
        Due.dueHours(chalk, 0, LAST, 7, 6, 6, 5, 5, 4, 4);
        Due.dueHours(chalk, 1, LEFT, 2, 1, 1, 0, 0);
        Due.dueHours(chalk, 1, HEARD, 0, 1, 1, 0, 0);
        WellTalk both = Due.village("g9;g8;c7", "a0wabcd;a0wab;a0wa;a0wabc;a0ia");
        Due.dueHours(both, 0, LEFT, 4, 4, 2, 2);
        Due.dueHours(both, 0, FIRST, 0, 0, 1, 1);
        Due.dueHours(both, 0, LAST, 3, 3, 2, 2);
        Due.dueHours(both, 1, LEFT, 2, 2, 0);
        Due.dueHours(both, 2, LEFT, 1, 1, 0);
        Due.dueHours(both, 3, LEFT, 3, 3, 1);
        Due.dueHours(both, 3, FIRST, 0, 0, 1);
        Due.dueHours(both, 4, LEFT, 1, 1, 0);
        Due.due("gone()", both.gone(), 22);
    }

    private static void whatCountsAsComing() {
        WellTalk x = Due.village("g9;c8;g7;g6", "a0wabcd");
        Due.events(x, 1, 1, 1);
        Due.dueHours(x, 0, WELL, 0, 2, 3, 3);
        Due.dueHours(x, 0, LEFT, 4, 4, 3, 3);
        WellTalk dry = Due.village("g9;g8;g7;c1", "a0wabcd");
        Due.events(dry, 2, 2, 0);
        Due.dueHours(dry, 0, WELL, 0, 1, 3, 3);
        Due.dueHours(dry, 0, LEFT, 4, 4, 2, 2);
        WellTalk again = Due.village("g9;g1", "a0wabcd");
        Due.events(again, 0, 2, 1, 0, 4, 1);
        Due.dueHours(again, 0, WELL, 0, 1, 0, 1, 0, 1);
        Due.dueHours(again, 0, LEFT, 4, 4, 3, 3, 2, 2);
        WellTalk stays = Due.village("g9;c1", "a1wab");
        Due.dueHours(stays, 0, LEFT, 2, 2, 2, 2, 2);
    }

    private static void whoHears() {
        WellTalk x = Due.village("g9;g5;g0", "a0iab;b0iab;c1ia;a2ia");
        long[] hears = {x.hears(0), x.hears(1), x.hears(2), x.hears(3), x.hears(-1)};
        Due.dueAll("hears", hears, 0, 3, 7, -2, -2);
        long[] soon = {x.soon(0), x.soon(1), x.soon(2), x.soon(3), x.soon(-1)};
        Due.dueAll("soon", soon, -1, 1, 2, -2, -2);
        long[] babel = {x.babel(0), x.babel(1), x.babel(2), x.babel(-1)};
        Due.dueAll("babel", babel, 3, 2, -2, -2);
        Due.due("gone()", x.gone(), 0);
        Due.due("count(6)", x.count(6), 5);
        Due.retype(x, 1, "b0ia;a0ia");
        Due.due("soon(1) is not the first saying's", x.soon(1), 1);
        Due.due("babel(0) of none at once", x.babel(0), -1);
        Due.due("babel(1) of none at once", x.babel(1), -1);
        Due.retype(x, 1, "a1ia;a1ia;a0ia;a0ia");
        Due.due("babel(0)", x.babel(0), 1);
        Due.due("babel(1), the least", x.babel(1), 1);
        Due.retype(x, 1, "a0ia;a1ia");
        Due.due("babel(0) of two that are heard at two", x.babel(0), -1);
        Due.retype(x, 1, "a2ia;b1ia;a1ia");
        Due.due("babel(0): one that is there but not heard", x.babel(0), -1);
        Due.events(x, 0, 4, 2);
        Due.due("babel(0)", x.babel(0), 4);
        Due.due("babel(1)", x.babel(1), 1);
        Due.due("hears(1) by a coin", x.hears(1), 7);
        Due.due("count(6): up and down again", x.count(6), 8);
    }

    private static void lostOnes() {
        WellTalk x = Due.village("g9;c5;g0", "a0ia;a0iab;a7ia;a2wa;x0ib");
        Due.due("gone()", x.gone(), 21);
        Due.due("count(5)", x.count(5), 3);
        Due.due("at(23, 4, 1)", x.at(23, 4, LEFT), 1);
        Due.due("at(24, 4, 1)", x.at(24, 4, LEFT), 0);
        Due.due("hears(1)", x.hears(1), 2);
        Due.events(x, 2, 39, 0, 1, 39, 2);
        Due.due("gone(): a drought leaves what is in the last well", x.gone(), 21);
        Due.retype(x, 0, "g9;g5;g0");
        Due.due("gone()", x.gone(), 4);
        Due.events(x, 0, 38, 2);
        Due.due("gone() behind hour 39", x.gone(), 31);
        Due.due("at(38, 0, 0)", x.at(38, 0, WELL), 1);
    }

    public static void main(String[] args) {
        downTheHill();
        likeOnes();
        noSuchWell();
        coins();
        sandStaysAsLongAgain();
        lidsLastThreeHours();
        lidsPassOn();
        droughts();
        droughtsAndStays();
        woodAndChalk();
        whatCountsAsComing();
        whoHears();
        lostOnes();
        Due.end();
    }
}
