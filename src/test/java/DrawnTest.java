/** Promises 20 to 27: what was drawn and what is to be thought of it, chance, days. */
public final class DrawnTest {
    private static void drawing() {
        WellTalk x = new WellTalk();
        int[][] wrong = {{-1, 0, 0}, {40, 0, 0}, {0, -1, 0}, {0, 8, 0}, {0, 0, -1}, {0, 0, 5}};
        for (int[] w : wrong) {
            Due.due("draw(" + w[0] + ", " + w[1] + ", " + w[2] + ")", x.draw(w[0], w[1], w[2]), -2);
        }
        Due.due("count(7)", x.count(7), 0);
        Due.due("forget()", x.forget(), 0);
        Due.due("draw(0, 0, 0)", x.draw(0, 0, 0), 1);
        for (int d = 2; d <= 8; d++) {
            Due.due("draw(39, 7, 4)", x.draw(39, 7, 4), d);
        }
        Due.due("draw of a ninth", x.draw(0, 0, 0), -4);
        Due.due("draw of a wrong ninth", x.draw(40, 0, 0), -2);
        Due.due("count(7)", x.count(7), 8);
        Due.due("forget()", x.forget(), 8);
        Due.due("count(7)", x.count(7), 0);
        Due.due("forget()", x.forget(), 0);
        Due.due("draw(1, 1, 1)", x.draw(1, 1, 1), 1);
    }

    private static void neverTossed() {
        WellTalk x = Due.village("g9;g8;c7;g0", "a0iab;a0ia");
        Due.due("never() without events", x.never(), 0);
        Due.events(x, 1, 2, 2, 0, 5, 0, 2, 30, 0);
        Due.due("never() of nothing drawn", x.never(), 7);
        x.draw(2, 0, 1);
        Due.due("never() of the lid", x.never(), 1);
        x.draw(2, 1, 0);
        Due.due("never() of the lid, by both", x.never(), 1);
        x.draw(1, 1, 0);
        Due.due("never() of none", x.never(), 0);
        x.forget();
        x.draw(2, 0, 2);
        Due.due("never() of all but the lid", x.never(), 6);
        x.draw(2, 2, 0);
        Due.due("never() of a saying that there is not", x.never(), 0);
        x.forget();
        x.draw(2, 0, 1);
        Due.events(x, 1, 1, 2);
        Due.due("never() of two lids, each alone", x.never(), 0);
        Due.due("the events stay", x.count(4), 4);
    }

    private static void stones() {
        WellTalk x = Due.village("g9;g8;g7", "a0iab");
        Due.due("stone(1, 0) of nothing drawn", x.stone(1, 0), 7);
        Due.due("stone(1, 1) of nothing drawn", x.stone(1, 1), 1023);
        x.draw(1, 0, 1);
        Due.due("stone(1, 0) chalk", x.stone(1, 0), 2);
        Due.due("stone(0, 0) none", x.stone(0, 0), 0);
        x.draw(1, 0, 2);
        Due.due("stone(1, 0) of what cannot be", x.stone(1, 0), 0);
        x.forget();
        x.draw(1, 0, 2);
        Due.due("stone(1, 0) not chalk", x.stone(1, 0), 5);
        Due.due("stone(0, 0) any", x.stone(0, 0), 7);
        Due.retype(x, 0, "g9;c8");
        Due.due("stone(0, 0) sand", x.stone(0, 0), 4);
        x.forget();
        x.draw(1, 0, 1);
        Due.due("stone(0, 0) not sand", x.stone(0, 0), 3);
        x.draw(0, 7, 0);
        Due.due("stone(0, 0) of a saying that there is not", x.stone(0, 0), 0);
        int[][] wrong = {{-1, 0}, {2, 0}, {0, -1}, {0, 2}};
        for (int[] w : wrong) {
            Due.due("stone(" + w[0] + ", " + w[1] + ")", x.stone(w[0], w[1]), -2);
        }
        Due.due("the stone stays as told", x.well(0, 0), 0);
    }

    private static void heights() {
        WellTalk x = Due.village("g9;c5;g1", "a0iab");
        x.draw(1, 0, 1);
        Due.due("stone(1, 1)", x.stone(1, 1), 510);
        Due.due("stone(0, 1)", x.stone(0, 1), 960);
        Due.due("stone(2, 1)", x.stone(2, 1), 575);
        x.forget();
        x.draw(1, 0, 2);
        Due.due("stone(1, 1)", x.stone(1, 1), 513);
        x.draw(0, 3, 4);
        Due.due("stone(1, 1) of a saying that there is not", x.stone(1, 1), 0);
        Due.due("the height stays as told", x.well(1, 1), 5);
        WellTalk dry = Due.village("g9;c5;g1", "a0iab");
        Due.events(dry, 2, 1, 0);
        dry.draw(1, 0, 1);
        Due.due("stone(1, 1): the last well by a drought", dry.stone(1, 1), 3);
    }

    private static void buckets() {
        WellTalk x = Due.village("g9;g8;g7", "a0wab;a0iab");
        Due.due("bucket(0) of nothing drawn", x.bucket(0), 3);
        x.draw(1, 0, 2);
        Due.due("bucket(0) of what tells nothing", x.bucket(0), 3);
        x.draw(2, 0, 1);
        Due.due("bucket(0) wood", x.bucket(0), 2);
        Due.due("bucket(1) any", x.bucket(1), 3);
        x.draw(2, 1, 1);
        Due.due("bucket(1) wood", x.bucket(1), 2);
        Due.due("bucket(0) none: the other is iron", x.bucket(0), 0);
        x.forget();
        x.draw(2, 0, 2);
        Due.due("bucket(0) iron", x.bucket(0), 1);
        Due.due("bucket(1) none", x.bucket(1), 0);
        Due.due("bucket(-1)", x.bucket(-1), -2);
        Due.due("bucket(2)", x.bucket(2), -2);
        x.draw(0, 2, 0);
        Due.due("bucket(0) of a saying that there is not", x.bucket(0), 0);
        Due.due("the bucket stays as told", x.saying(0, 2), 1);
        x.forget();
        x.draw(2, 0, 1);
        Due.events(x, 1, 2, 2);
        Due.due("bucket(0) as soon as there is a lid", x.bucket(0), 0);
        x.back();
        Due.due("bucket(0) as soon as there is none", x.bucket(0), 2);
    }

    private static void asking() {
        WellTalk x = Due.village("g9;c5;g1", "a0iab");
        Due.due("ask(1) of nothing drawn", x.ask(1), 1);
        x.draw(1, 0, 1);
        Due.due("ask(1)", x.ask(1), 2);
        x.draw(1, 0, 2);
        Due.due("ask(1) of none", x.ask(1), 0);
        Due.due("ask(-1)", x.ask(-1), -2);
        Due.due("ask(3)", x.ask(3), -2);
        WellTalk one = Due.village("g9", "a0iab");
        Due.due("ask(0), all alike", one.ask(0), 0);
        WellTalk late = Due.village("g9;g5", "c0iab");
        Due.due("ask(1)", late.ask(1), 3);
        Due.due("ask(0)", late.ask(0), 3);
        Due.due("ask(1) in a dry village", Due.village("", "").ask(1), -2);
    }

    private static void dueChance(WellTalk x, int c, int saying, int well, long above, long below) {
        Due.due("chance(" + c + ", " + saying + ", " + well + ", 0)", x.chance(c, saying, well, 0), above);
        Due.due("chance(" + c + ", " + saying + ", " + well + ", 1)", x.chance(c, saying, well, 1), below);
    }

    private static void chances() {
        WellTalk x = Due.village("g9;g5;g0", "a0ia;a1ia");
        dueChance(x, 7, 0, 1, 1, 1);
        dueChance(x, 7, 0, 0, 0, 1);
        dueChance(x, 7, 0, 7, 0, 1);
        Due.events(x, 1, 1, 1);
        dueChance(x, 4, 0, 1, 3, 4);
        dueChance(x, 5, 0, 1, 11, 16);
        dueChance(x, 0, 0, 1, 1, 1);
        dueChance(x, 16, 0, 1, 0, 1);
        dueChance(x, 4, 0, 2, 1, 1);
        Due.events(x, 1, 0, 1);
        dueChance(x, 4, 0, 1, 9, 16);
        dueChance(x, 5, 0, 1, 121, 256);
        Due.events(x, 0, 1, 1);
        dueChance(x, 8, 1, 0, 1, 4);
        dueChance(x, 3, 1, 0, 39, 256);
        dueChance(x, 16, 1, 0, 0, 1);
        Due.events(x, 2, 1, 0);
        dueChance(x, 3, 1, 0, 507, 4096);
        dueChance(x, 3, 0, 1, 2197, 4096);
        WellTalk full = Due.village("g9;g5;g0", "a0ia");
        Due.events(full, 1, 1, 1, 1, 1, 1, 1, 1, 1, 1, 1, 1, 1, 1, 1, 1, 1, 1, 1, 1, 1, 1, 1, 1);
        dueChance(full, 15, 0, 1, 1, 1L << 32);
        dueChance(full, 1, 0, 1, 2562890625L, 1L << 32);
        dueChance(full, 8, 0, 1, 1, 256);
        dueChance(full, 0, 0, 1, 1, 1);
        dueChance(full, 16, 0, 1, 0, 1);
        int[][] wrong = {{-1, 0, 0, 0}, {17, 0, 0, 0}, {0, -1, 0, 0}, {0, 2, 0, 0},
            {0, 0, -1, 0}, {0, 0, 8, 0}, {0, 0, 0, -1}, {0, 0, 0, 2}};
        for (int[] w : wrong) {
            Due.due("chance of a wrong number", x.chance(w[0], w[1], w[2], w[3]), Long.MIN_VALUE + 2);
        }
        Due.due("the events stay", x.count(4), 4);
    }

    private static void wrongDays() {
        WellTalk x = Due.village("g9;g5;g0", "a0ia");
        Due.events(x, 1, 0, 0);
        Due.due("gone()", x.gone(), 1);
        Due.due("day(1, 0, 0)", x.day(1, 0, 0), 0);
        Due.due("day(1, 0, 1)", x.day(1, 0, 1), 1);
        Due.due("day(1, -1, 0)", x.day(1, -1, 0), -2);
        Due.due("day(1, 9, 0)", x.day(1, 9, 0), -2);
        Due.due("day(1, 1, -1)", x.day(1, 1, -1), -2);
        Due.due("day(1, 1, 2)", x.day(1, 1, 2), -2);
        Due.due("gone() stays", x.gone(), 1);
        WellTalk none = Due.village("", "a0ia;a0ib");
        Due.due("day(5, 8, 0) without wells", none.day(5, 8, 0), 2);
        Due.due("day(5, 8, 1) without wells", none.day(5, 8, 1), 0);
    }

    /** A day is as if its lots had been told as events. */
    private static void days() {
        String wells = "g9;c7;s5;g3;g1;c5;s2";
        String sayings = "a0iabcd;b0wabcd;c2wefgh;e4ih;g6ia;a1wabc;d3wab;b5ic";
        int[] seeds = {0, 1, 7, 8, -1, 12345, Integer.MIN_VALUE, Integer.MAX_VALUE, 99991, -777, 31, 32};
        int last = 4;
        for (int k = 0; k < seeds.length; k++) {
            int n = k % 9;
            WellTalk x = Due.village(wells, sayings);
            int gone = x.day(seeds[k], n, 0);
            int heard = x.day(seeds[k], n, 1);
            long seed = seeds[k];
            for (int e = 0; e < n; e++) {
                int[] lots = new int[3];
                int[] moduli = {3, 40, 7};
                for (int i = 0; i < 3; i++) {
                    seed = (seed * 1103515245L + 12345L) & 0xffffffffL;
                    lots[i] = (int) (seed / 65536 % moduli[i]);
                }
                Due.events(x, lots);
            }
            Due.due("day(" + seeds[k] + ", " + n + ", 0)", gone, Integer.bitCount(x.gone()));
            Due.due("day(" + seeds[k] + ", " + n + ", 1)", heard, Integer.bitCount(x.hears(last)));
            Due.due("the same day again", x.day(seeds[k], n, 0), gone);
        }
    }

    public static void main(String[] args) {
        drawing();
        neverTossed();
        stones();
        heights();
        buckets();
        asking();
        chances();
        wrongDays();
        days();
        Due.end();
    }
}
