import java.math.BigInteger;
import java.util.ArrayList;
import java.util.List;

/** Promise 35, from the answers of the other calls, and what no refusal changes. */
public final class DigestEdgesTest {
    /** What the digest is of, in its order, by the calls of the face. */
    private static List<Long> told(WellTalk x) {
        List<Long> all = new ArrayList<>();
        for (int what = 0; what < 8; what++) {
            all.add((long) x.count(what));
        }
        all.add((long) x.fault(0));
        all.add((long) x.fault(1));
        int wells = x.count(0);
        for (int w = 0; w < wells; w++) {
            long[] of = {x.well(w, 0), x.well(w, 1), x.well(w, 2), x.well(w, 3), x.hears(w), x.soon(w), x.toss(w, 0), x.toss(w, 1),
                x.toss(w, 2), x.open(w, -1), x.open(w, 0), x.stone(w, 0), x.stone(w, 1), x.ask(w)};
            addAll(all, of);
        }
        int sayings = x.count(1);
        for (int s = 0; s < sayings; s++) {
            for (int what = 0; what < 8; what++) {
                all.add((long) x.saying(s, what));
            }
            for (int hour : new int[] {0, 8, 20, 39}) {
                addAll(all, x.at(hour, s, 0), x.at(hour, s, 1), x.at(hour, s, 2), x.at(hour, s, 3), x.at(hour, s, 4));
            }
            addAll(all, x.tell(s, 0, 0), x.tell(s, 0, 1), x.bucket(s), x.chance(5, s, 0, 0), x.chance(5, s, 0, 1));
        }
        addAll(all, x.gone(), x.babel(0), x.babel(1), x.iron(0), x.iron(1), x.never(), x.day(7, 6, 0), x.day(7, 6, 1));
        return all;
    }

    private static void addAll(List<Long> all, long... more) {
        for (long one : more) {
            all.add(one);
        }
    }

    private static long folded(List<Long> all) {
        long h = 17;
        for (long one : all) {
            h = 31 * h + one;
        }
        return h;
    }

    private static WellTalk drawn(String wells, String sayings, int[] draws, int... events) {
        WellTalk x = Due.village(wells, sayings, events);
        for (int d = 0; d + 2 < draws.length; d += 3) {
            x.draw(draws[d], draws[d + 1], draws[d + 2]);
        }
        return x;
    }

    private static void dueDigest(String wells, String sayings, int[] draws, int... events) {
        WellTalk x = drawn(wells, sayings, draws, events);
        long digest = x.digest();
        Due.due("digest() of " + wells + " " + sayings, digest, folded(told(drawn(wells, sayings, draws, events))));
        Due.due("digest() once more", x.digest(), digest);
        Due.calls(x, "count(8) = 0", "count(4) = " + events.length / 3, "count(7) = " + draws.length / 3);
    }

    private static void digests() {
        Due.says("h is 17; h becomes 31 h and each of (of each thing all that is told of it, then of the next one): "
            + "count() 0 to 7; of texts fault(); of WELLS well() 0 to 3, hears(), soon(), toss() 0 to 2, open(it, NONE), open(it, 0), "
            + "stone() 0, 1, ask(); of SAYINGS saying() 0 to 7, of HOURS 0, 8, 20, 39 at(the HOUR, it, 0 to 4), "
            + "then tell(it, 0, 0 and 1), bucket(), chance(5, it, 0), above, below; gone(), babel() 0, 1, iron() 0, 1, never(), "
            + "day(7, 6, 0 and 1); as longs that wrap.");
        Due.due("of an empty one", folded(told(new WellTalk())), new WellTalk().digest());
        int[] none = {};
        dueDigest("", "", none);
        dueDigest("g5", "", none);
        dueDigest("", "a0ia", none);
        dueDigest("g5;", "a0ia;", none);
        dueDigest("s7;g1;g0;g1;s8;c8", "j2wab;u0iab;u1wa;w5iab;i3wab;a1wab", none);
        dueDigest("g2;s6", "i0iab;j1wab;s0wab;l0ia;b1wa;x1wa;q0wa;u0iab", none);
        dueDigest("g9;g5;g1", "a0ia;a1ia;x0wab", none);
        dueDigest("g9;c5;g1", "a0iab;h0iab;t0wab", new int[] {1, 0, 1}, 0, 8, 1, 1, 20, 2);
        dueDigest("g3;g5;g1", "g1iab;h1iab;s1iab;t1wab", none, 1, 8, 0, 1, 20, 0, 0, 39, 2, 1, 37, 1);
        dueDigest("g5;g9;g1", "b1ia;g1ib;f2ic;r1wab;v2id", new int[] {30, 0, 1, 2, 1, 1}, 1, 2, 0, 0, 8, 2, 0, 39, 2, 1, 7, 0, 2, 20, 1);
        dueDigest("g3;g5;s9", "a1iab;c1iab;d2wab;q2iabc;j0ia;w1wbc", new int[] {8, 1, 2}, 1, 1, 0, 1, 3, 0, 0, 20, 0, 0, 8, 1);
        dueDigest("c3;g5;g9;g0;s7;g4;c6;s0", "a2ihabc;b1wbcde;c0iab;d4wa;e5ih;f6wg;g7iabcd;h3wfed", new int[] {9, 0, 4, 39, 2, 2},
            1, 1, 0, 0, 5, 3, 1, 2, 7, 2, 11, 0, 0, 20, 3, 1, 19, 2, 0, 39, 7, 1, 39, 5);
        dueDigest("g1;g2;g3;g4;g5;g6;g7;g8", "a7iabcd;b7wabcd;c6iabc;d5wabc;e4iab;f3wab;x2ia;x1wa", new int[] {20, 7, 1},
            0, 1, 7, 0, 2, 6, 1, 1, 3, 1, 6, 2, 1, 23, 1, 0, 30, 0, 1, 9, 0, 2, 25, 0);
    }

    /** Wraps: the same in whole numbers as large as they get, and their lowest 64 bits. */
    private static void wraps() {
        Due.says("as longs that wrap");
        WellTalk x = drawn("g9;c5;g1", "a0iab;b1wc", new int[] {1, 0, 1}, 1, 1, 1);
        BigInteger h = BigInteger.valueOf(17);
        for (long one : told(x)) {
            h = h.multiply(BigInteger.valueOf(31)).add(BigInteger.valueOf(one));
        }
        Due.due("bits of it", Math.min(65, h.bitLength()), 65);
        Due.due("digest()", x.digest(), h.longValue());
    }

    private static WellTalk whole() {
        WellTalk x = drawn("g9;c5;s3", "a0iab;b1wcd;c2ief", new int[] {1, 0, 1, 3, 1, 1}, 1, 1, 2, 0, 5, 2);
        Due.calls(x, "sheet(0, 0, 2) = 2", "lay(0, 0, 1, 5) = 1", "sheet(1, 1, 1) = 1", "lay(1, 1, 0, 6) = 1", "sheet(2, 2, 0) = 0");
        return x;
    }

    private static void refusalsChangeNothing() {
        Due.says("They change nothing (FINDINGS but count() 8).");
        String[] refused = {"type(-1, 97) = BAD", "type(2, 97) = BAD", "type(0, -1) = BAD", "type(1, 256) = BAD", "wipe(-1) = BAD",
            "wipe(2) = BAD", "undo(-1) = BAD", "undo(2) = BAD", "event(3, 0, 0) = BAD", "event(0, 40, 0) = BAD", "event(0, 0, 8) = BAD",
            "event(-1, 0, 0) = BAD", "event(0, -1, 0) = BAD", "event(0, 0, -1) = BAD", "read(-1) = BAD", "read(4) = BAD",
            "at(40, 0, 0) = BAD", "hears(3) = BAD", "soon(3) = BAD", "babel(2) = BAD", "tell(3, 0, 0) = BAD", "toss(8, 0) = BAD",
            "open(8, 0) = BAD", "iron(2) = BAD", "draw(40, 0, 0) = BAD", "draw(0, 8, 0) = BAD", "draw(0, 0, 5) = BAD",
            "stone(3, 0) = BAD", "bucket(3) = BAD", "ask(3) = BAD", "chance(17, 0, 0, 0) = LEAST", "day(0, 9, 0) = BAD",
            "sheet(4, 0, 0) = BAD", "sheet(0, 3, 0) = BAD", "sheet(0, 0, 61) = BAD", "lose(4) = BAD", "lay(4, 0, 0, 1) = BAD",
            "lay(0, 3, 0, 1) = BAD", "get(4, 0, 0) = MIN", "copy(4, 0, 0, 0, 1) = BAD", "copy(0, 0, 4, 0, 1) = BAD",
            "write(3, 0) = BAD", "write(0, 4) = BAD", "count(9) = BAD"};
        for (String row : refused) {
            dueUnchanged(row, 0);
        }
        String[] found = {"read(3) = NULL", "lose(3) = NULL", "lay(3, 0, 0, 1) = NULL", "get(3, 0, 0) = MIN", "copy(0, 0, 3, 0, 1) = NULL",
            "copy(3, 0, 0, 0, 1) = NULL", "write(0, 3) = NULL"};
        for (String row : found) {
            dueUnchanged(row, 1);
        }
        String[] noItem = {"lay(0, 0, 2, 9) = INDEX", "lay(2, 2, 0, 9) = INDEX", "get(0, 0, 2) = MIN", "copy(0, 0, 0, 1, 2) = INDEX"};
        for (String row : noItem) {
            dueUnchanged(row, 2);
        }
        dueUnchanged("lay(0, 1, 1, 9) = CAST", 3);
        dueUnchanged("get(0, 1, 1) = MIN", 3);
        dueUnchanged("copy(0, 0, 1, 0, 1) = STORE", 4);
        dueUnchanged("sheet(0, 2, -1) = SIZE", 5);
        dueUnchanged("sheet(3, 2, -1) = SIZE", 5);
    }

    private static void dueUnchanged(String refused, int finding) {
        WellTalk x = whole();
        Due.calls(x, refused, "count(8) = " + finding);
        Due.due("digest() behind " + refused, x.digest(), whole().digest());
        Due.calls(x, "get(0, 0, *) = 0 5", "get(1, 1, 0) = 6", "lose(*) = 2 1 0 NULL", "forget() = 2", "back() = 1");
    }

    private static void refusalsOfTheFull() {
        Due.says("Refusals, the first that fits, in the order told at each act: BAD -2 (a number not as told, no such thing), NULL, "
            + "NOT -3 (as told), FULL -4, other FINDINGS. They change nothing (FINDINGS but count() 8).");
        WellTalk x = Due.village("g9;g8;g7;g6;g5;g4;g3;g2", "a0iabcd;a0iabcd;a0iabcd;a0iabcd;a0iabcd;a0iabcd;a0iabcd;a0iabcd");
        for (int k = 1; k <= 8; k++) {
            Due.calls(x, "event(1, 0, 0) = " + k, "draw(0, 0, 0) = " + k);
        }
        long digest = x.digest();
        Due.calls(x, "type(0, 97) = FULL", "type(1, 97) = FULL", "event(0, 0, 0) = FULL", "draw(1, 1, 1) = FULL", "type(0, 256) = BAD");
        Due.calls(x, "type(1, -1) = BAD", "event(3, 0, 0) = BAD", "draw(0, 0, 5) = BAD", "sheet(0, 0, 3) = 3", "read(0) = 0");
        Due.due("digest() behind FULL", x.digest(), digest);
        Due.calls(x, "count(8) = 0", "count(*) = 8 8 23 63 8 8 0 8");
        WellTalk empty = new WellTalk();
        Due.calls(empty, "undo(0) = NOT", "undo(1) = NOT", "back() = NOT", "undo(2) = BAD", "count(*) = 0 0 0 0 0 0 0 0 0");
        Due.due("digest() behind NOT", empty.digest(), new WellTalk().digest());
        Due.says("Where the answer is a long, a refusal -x is the least long and x more.");
        Due.calls(empty, "chance(0, 0, 0, 0) = LEAST", "chance(99, -9, 99, 99) = LEAST");
        Due.due("NONE", WellTalk.NONE, -1);
        Due.due("BAD", WellTalk.BAD, -2);
        Due.due("NOT", WellTalk.NOT, -3);
        Due.due("FULL", WellTalk.FULL, -4);
    }

    public static void main(String[] args) {
        digests();
        wraps();
        refusalsChangeNothing();
        refusalsOfTheFull();
        Due.end();
    }
}
