import java.util.Arrays;
import java.util.Random;

/** Runs of calls by lots (always the same), each answer held against the Model's. */
public final class ModelTest {
    private static final String[] NAMES = {"type", "wipe", "undo", "fault", "well", "saying", "event", "back", "read",
        "at", "hears", "soon", "gone", "babel", "tell", "toss", "open", "iron", "draw", "forget", "never", "stone",
        "bucket", "ask", "chance", "day", "sheet", "lose", "lay", "get", "copy", "write", "count", "digest"};
    private static final int EVENT = 6, AT = 9, DRAW = 18, OPEN = 16, COPY = 30, COUNT = 32, DIGEST = 33;

    /** For each call, the bound of each argument: its lots go from -1 to the bound, so both ends are wrong at times. */
    private static final int[][] BOUNDS = {{2, 256}, {2}, {2}, {2}, {8, 4}, {8, 8}, {3, 40, 8}, {}, {4},
        {40, 8, 5}, {8}, {8}, {}, {2}, {8, 8, 2}, {8, 3}, {8, 2}, {2}, {40, 8, 5}, {}, {}, {8, 2},
        {8}, {8}, {17, 8, 8, 2}, {99999, 9, 2}, {4, 3, 61}, {4}, {4, 3, 60, 99}, {4, 3, 60}, {4, 9, 4, 9, 9}, {8, 4}, {9}, {}};

    private final WellTalk x = new WellTalk();
    private final Model m = new Model();
    private final Random lots;
    private final int run;
    private int calls = 0;

    private ModelTest(int run) {
        this.run = run;
        this.lots = new Random(run);
    }

    private static long answer(WellTalk x, int call, int[] a) {
        switch (call) {
            case 0: return x.type(a[0], a[1]);
            case 1: return x.wipe(a[0]);
            case 2: return x.undo(a[0]);
            case 3: return x.fault(a[0]);
            case 4: return x.well(a[0], a[1]);
            case 5: return x.saying(a[0], a[1]);
            case 6: return x.event(a[0], a[1], a[2]);
            case 7: return x.back();
            case 8: return x.read(a[0]);
            case 9: return x.at(a[0], a[1], a[2]);
            case 10: return x.hears(a[0]);
            case 11: return x.soon(a[0]);
            case 12: return x.gone();
            case 13: return x.babel(a[0]);
            case 14: return x.tell(a[0], a[1], a[2]);
            case 15: return x.toss(a[0], a[1]);
            case 16: return x.open(a[0], a[1]);
            case 17: return x.iron(a[0]);
            case 18: return x.draw(a[0], a[1], a[2]);
            case 19: return x.forget();
            case 20: return x.never();
            case 21: return x.stone(a[0], a[1]);
            case 22: return x.bucket(a[0]);
            case 23: return x.ask(a[0]);
            case 24: return x.chance(a[0], a[1], a[2], a[3]);
            case 25: return x.day(a[0], a[1], a[2]);
            case 26: return x.sheet(a[0], a[1], a[2]);
            case 27: return x.lose(a[0]);
            case 28: return x.lay(a[0], a[1], a[2], a[3]);
            case 29: return x.get(a[0], a[1], a[2]);
            case 30: return x.copy(a[0], a[1], a[2], a[3], a[4]);
            case 31: return x.write(a[0], a[1]);
            case 32: return x.count(a[0]);
            default: return x.digest();
        }
    }

    private static long answer(Model m, int call, int[] a) {
        switch (call) {
            case 0: return m.type(a[0], a[1]);
            case 1: return m.wipe(a[0]);
            case 2: return m.undo(a[0]);
            case 3: return m.fault(a[0]);
            case 4: return m.well(a[0], a[1]);
            case 5: return m.saying(a[0], a[1]);
            case 6: return m.event(a[0], a[1], a[2]);
            case 7: return m.back();
            case 8: return m.read(a[0]);
            case 9: return m.at(a[0], a[1], a[2]);
            case 10: return m.hears(a[0]);
            case 11: return m.soon(a[0]);
            case 12: return m.gone();
            case 13: return m.babel(a[0]);
            case 14: return m.tell(a[0], a[1], a[2]);
            case 15: return m.toss(a[0], a[1]);
            case 16: return m.open(a[0], a[1]);
            case 17: return m.iron(a[0]);
            case 18: return m.draw(a[0], a[1], a[2]);
            case 19: return m.forget();
            case 20: return m.never();
            case 21: return m.stone(a[0], a[1]);
            case 22: return m.bucket(a[0]);
            case 23: return m.ask(a[0]);
            case 24: return m.chance(a[0], a[1], a[2], a[3]);
            case 25: return m.day(a[0], a[1], a[2]);
            case 26: return m.sheet(a[0], a[1], a[2]);
            case 27: return m.lose(a[0]);
            case 28: return m.lay(a[0], a[1], a[2], a[3]);
            case 29: return m.get(a[0], a[1], a[2]);
            case 30: return m.copy(a[0], a[1], a[2], a[3], a[4]);
            case 31: return m.write(a[0], a[1]);
            case 32: return m.count(a[0]);
            default: return m.digest();
        }
    }

    private void hold(int call, int... a) {
        calls++;
        String told = "run " + run + ", call " + calls + ": " + NAMES[call] + Arrays.toString(a);
        Due.due(told, answer(x, call, a), answer(m, call, a));
    }

    private void holdByLot(int call) {
        int[] bounds = BOUNDS[call];
        int[] a = new int[bounds.length];
        for (int k = 0; k < a.length; k++) {
            a[k] = wild() ? lots.nextInt() : lots.nextInt(8) == 0 ? lots.nextInt(bounds[k] + 2) - 1 : lots.nextInt(bounds[k]);
        }
        if (call == COPY && lots.nextInt(3) == 0) {
            a[2] = a[0];
        }
        hold(call, a);
    }

    private boolean wild() {
        return lots.nextInt(150) == 0;
    }

    private String wellsByLot() {
        StringBuilder s = new StringBuilder();
        int many = lots.nextInt(6) == 0 ? lots.nextInt(3) : 3 + lots.nextInt(6);
        int heights = lots.nextBoolean() ? 10 : 4;
        for (int w = 0; w < many; w++) {
            s.append(w == 0 ? "" : ";").append("gggcss".charAt(lots.nextInt(6))).append((char) ('0' + lots.nextInt(heights)));
        }
        return s.toString();
    }

    private String sayingsByLot() {
        StringBuilder s = new StringBuilder();
        int many = lots.nextInt(9);
        int letters = 1 + lots.nextInt(4);
        for (int k = 0; k < many; k++) {
            s.append(k == 0 ? "" : ";").append((char) ('a' + lots.nextInt(lots.nextInt(3) == 0 ? 24 : 6)));
            s.append((char) ('0' + lots.nextInt(lots.nextInt(6) == 0 ? 8 : 4))).append("iw".charAt(lots.nextInt(2)));
            for (int i = 0; i < Math.max(letters, 1 + lots.nextInt(4)); i++) {
                s.append((char) ('a' + lots.nextInt(8)));
            }
        }
        return s.toString();
    }

    private void typeIn(int text, String s) {
        for (int i = 0; i < s.length(); i++) {
            hold(0, text, s.charAt(i));
        }
    }

    private void spoil(int text, String s) {
        if (s.isEmpty()) {
            return;
        }
        int keep = lots.nextInt(s.length());
        hold(1, text);
        typeIn(text, s.substring(0, keep));
        hold(0, text, "gcs09;aixw78y".charAt(lots.nextInt(13)));
        hold(3, text);
        hold(0, text, lots.nextInt(256));
        hold(3, text);
        hold(32, text);
        hold(DIGEST);
        hold(1, text);
        typeIn(text, s);
    }

    private void eventByLot() {
        int hour = lots.nextInt(lots.nextInt(4) == 0 ? 40 : 14);
        hold(EVENT, new int[] {0, 0, 1, 1, 1, 2}[lots.nextInt(6)], hour, lots.nextInt(lots.nextInt(5) == 0 ? 8 : 4));
    }

    /** Mostly what is so, that not everything is ruled out at once. */
    private void drawByLot() {
        int saying = lots.nextInt(Math.max(1, m.count(1)));
        int hour = lots.nextInt(24);
        int letters = Math.max(0, m.at(hour, saying, 1));
        hold(DRAW, hour, saying, lots.nextInt(9) == 0 ? lots.nextInt(5) : letters);
    }

    private void sheetsByLot() {
        for (int k = 0; k < 4; k++) {
            hold(26, lots.nextInt(3), lots.nextInt(3), lots.nextInt(61));
        }
        for (int k = 0; k < 30; k++) {
            holdByLot(26 + lots.nextInt(6));
            hold(29, lots.nextInt(4), lots.nextInt(3), lots.nextInt(12));
            hold(32, 8);
        }
        int form = lots.nextInt(3);
        hold(26, 3, form, 3 + lots.nextInt(8));
        for (int i = 0; i < 9; i++) {
            hold(28, 3, form, i, lots.nextInt(9) == 0 ? 7 : lots.nextInt(i % 3 == 0 ? 3 : 9));
        }
        hold(8, 3);
        hold(32, 4);
    }

    /** What comes just in the hours that the digest tells. */
    private void digestHours() {
        int[] hours = {0, 8, 20, 39};
        typeIn(0, "g9;s5;g0");
        typeIn(1, "a2iabc;a1wab;a2ia");
        for (int h : hours) {
            hold(EVENT, 0, h, 2);
            hold(DIGEST);
            hold(EVENT, 1, h, 1);
            hold(DIGEST);
            hold(7);
        }
    }

    /** A few sayings, and lids in their way. */
    private void lidsInTheWay() {
        typeIn(0, "g9;g" + lots.nextInt(10) + ";s" + lots.nextInt(10) + ";g" + lots.nextInt(3));
        typeIn(1, lots.nextBoolean() ? "c0iab" : "c0iab;b" + lots.nextInt(4) + "wab");
        while (m.count(4) < 3 + run % 6) {
            hold(EVENT, lots.nextInt(5) == 0 ? lots.nextInt(3) : 1, lots.nextInt(6), lots.nextInt(4));
        }
        for (int w = 0; w < 8; w++) {
            for (int i = -1; i < 2; i++) {
                hold(OPEN, w, i);
            }
        }
        hold(DIGEST);
    }

    /** What was answered ahead of a change is not to be answered behind it. */
    private void change(int k) {
        switch (k % 4) {
            case 0:
                hold(2, k % 8 / 4);
                break;
            case 1:
                hold(0, k % 8 / 4, k % 8 == 1 ? '0' + lots.nextInt(10) : 'a' + lots.nextInt(8));
                break;
            case 2:
                holdByLot(7);
                break;
            default:
                eventByLot();
                break;
        }
    }

    private void go() {
        String wells = wellsByLot();
        String sayings = sayingsByLot();
        typeIn(0, wells);
        typeIn(1, sayings);
        int events = lots.nextInt(3) == 0 ? 8 : lots.nextInt(6);
        for (int e = 0; e < events; e++) {
            eventByLot();
        }
        if (run % 4 == 0) {
            spoil(run / 4 % 2, run / 4 % 2 == 0 ? wells : sayings);
        }
        if (run % 3 == 0) {
            sheetsByLot();
        }
        int draws = lots.nextInt(4);
        for (int d = 0; d < draws; d++) {
            drawByLot();
        }
        for (int k = 0; k < 46; k++) {
            holdByLot(3 + lots.nextInt(3));
            holdByLot(AT + lots.nextInt(5));
            holdByLot(AT + lots.nextInt(DRAW - AT));
            holdByLot(DRAW + 2 + lots.nextInt(6));
        }
        for (int k = 0; k < 16 && run % 4 != 0; k++) {
            change(k);
            int call = lots.nextInt(3) > 0 ? AT + lots.nextInt(DRAW - AT) : DRAW + 2 + lots.nextInt(6);
            holdByLot(lots.nextInt(8) == 0 ? COUNT : call);
        }
        if (run % 2 == 0) {
            holdByLot(7);
            eventByLot();
            hold(AT, lots.nextInt(40), 0, 0);
            holdByLot(DRAW);
            holdByLot(2);
        }
        hold(DIGEST);
        Due.due("run " + run + ": calls " + calls + " above 512", Math.max(calls, 512), 512);
    }

    public static void main(String[] args) {
        int runs = args.length > 0 ? Integer.parseInt(args[0]) : 240;
        int from = args.length > 1 ? Integer.parseInt(args[1]) : 0;
        for (int run = from; run < from + runs; run++) {
            new ModelTest(run).go();
            new ModelTest(run).lidsInTheWay();
        }
        new ModelTest(0).digestHours();
        Due.end();
    }
}
