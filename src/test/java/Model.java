import java.util.ArrayList;
import java.util.Arrays;
import java.util.List;
import java.util.TreeMap;
import java.util.function.IntFunction;
import java.util.regex.Matcher;
import java.util.regex.Pattern;

/** The document once more, from its definitions, slow and without regard for the room: what WellTalk is held against. */
final class Model {
    private static final int NONE = -1, BAD = -2, NOT = -3, FULL = -4;

    record Well(int stone, int height) { }

    record Saying(int hour, int well, int bucket, String word) { }

    record Event(int kind, int hour, int well) { }

    record Drawn(int hour, int saying, int letters) { }

    record Moment(int well, String left, boolean heard) { }

    private final List<List<Integer>> texts = List.of(new ArrayList<>(), new ArrayList<>());
    private List<Event> events = new ArrayList<>();
    private final List<Drawn> drawn = new ArrayList<>();
    private final int[] forms = {NONE, NONE, NONE, NONE};
    private final int[][] rows = new int[4][];
    private int latest = 0;

    // ---- texts

    int type(int text, int b) {
        if (text != 0 && text != 1 || b < 0 || b > 255) return BAD;
        if (texts.get(text).size() == (text == 0 ? 23 : 63)) return FULL;
        texts.get(text).add(b);
        return texts.get(text).size();
    }

    int wipe(int text) {
        if (text != 0 && text != 1) return BAD;
        int had = texts.get(text).size();
        texts.get(text).clear();
        return had;
    }

    int undo(int text) {
        if (text != 0 && text != 1) return BAD;
        if (texts.get(text).isEmpty()) return NOT;
        texts.get(text).remove(texts.get(text).size() - 1);
        return texts.get(text).size();
    }

    private String asString(int text) {
        StringBuilder s = new StringBuilder();
        for (int b : texts.get(text)) s.append((char) b);
        return s.toString();
    }

    private static final String[] PARTS = {"[gcs][0-9]", "[a-x][0-7][iw][a-h]{1,4}"};

    int fault(int text) {
        if (text != 0 && text != 1) return BAD;
        String s = asString(text);
        if (s.isEmpty()) return NONE;
        Pattern whole = Pattern.compile("(?s)" + PARTS[text] + "(;" + PARTS[text] + ")*");
        int fault = NONE;
        for (int k = 1; k <= s.length() && fault == NONE; k++) {
            Matcher m = whole.matcher(s.substring(0, k));
            if (!m.matches() && !m.hitEnd()) fault = k - 1;
        }
        if (fault == NONE && !whole.matcher(s).matches()) fault = s.length();
        int ninth = -1;
        for (int k = 0; k < 8; k++) {
            ninth = s.indexOf(';', ninth + 1);
            if (ninth < 0) return fault;
        }
        return fault == NONE || fault > ninth ? ninth + 1 : fault;
    }

    private List<Well> wells() {
        List<Well> list = new ArrayList<>();
        if (fault(0) != NONE || asString(0).isEmpty()) return list;
        for (String s : asString(0).split(";")) list.add(new Well("gcs".indexOf(s.charAt(0)), s.charAt(1) - '0'));
        return list;
    }

    private List<Saying> sayings() {
        List<Saying> list = new ArrayList<>();
        if (fault(1) != NONE || asString(1).isEmpty()) return list;
        for (String s : asString(1).split(";")) {
            list.add(new Saying(s.charAt(0) - 'a', s.charAt(1) - '0', s.charAt(2) == 'i' ? 0 : 1, s.substring(3)));
        }
        return list;
    }

    int well(int well, int what) {
        List<Well> wells = wells();
        if (well < 0 || well >= wells.size() || what < 0 || what > 3) return BAD;
        return what == 0 ? wells.get(well).stone
            : what == 1 ? wells.get(well).height
            : what == 2 ? down(wells, well) : up(wells, well);
    }

    int saying(int saying, int what) {
        List<Saying> sayings = sayings();
        if (saying < 0 || saying >= sayings.size() || what < 0 || what > 7) return BAD;
        Saying s = sayings.get(saying);
        return what == 0 ? s.hour : what == 1 ? s.well : what == 2 ? s.bucket : what == 3 ? s.word.length()
            : what - 4 < s.word.length() ? s.word.charAt(what - 4) - 'a' : NONE;
    }

    // ---- events

    private static boolean may(int kind, int hour, int well) {
        return kind >= 0 && kind <= 2 && hour >= 0 && hour <= 39 && well >= 0 && well <= 7;
    }

    int event(int kind, int hour, int well) {
        if (!may(kind, hour, well)) return BAD;
        if (events.size() == 8) return FULL;
        events.add(new Event(kind, hour, well));
        return events.size();
    }

    int back() {
        if (events.isEmpty()) return NOT;
        events.remove(events.size() - 1);
        return events.size();
    }

    int read(int s) {
        if (s < 0 || s > 3) return BAD;
        if (forms[s] == NONE) return find(1);
        int came = 0;
        while (3 * came + 2 < rows[s].length && may(rows[s][3 * came], rows[s][3 * came + 1], rows[s][3 * came + 2])
            && events.size() < 8) {
            events.add(new Event(rows[s][3 * came], rows[s][3 * came + 1], rows[s][3 * came + 2]));
            came++;
        }
        return came;
    }

    // ---- the walk of a saying, hour by hour, from the words of the document

    private static int down(List<Well> wells, int from) {
        for (int high = wells.get(from).height - 1; high >= 0; high--) {
            for (int w = 0; w < wells.size(); w++) if (wells.get(w).height == high) return w;
        }
        return NONE;
    }

    private static int up(List<Well> wells, int from) {
        for (int high = wells.get(from).height + 1; high <= 9; high++) {
            for (int w = 0; w < wells.size(); w++) if (wells.get(w).height == high) return w;
        }
        return NONE;
    }

    private static int last(List<Well> wells) {
        for (int high = 0; high <= 9; high++) {
            for (int w = 0; w < wells.size(); w++) if (wells.get(w).height == high) return w;
        }
        return NONE;
    }

    private static boolean covered(List<Event> events, int hour, int well) {
        for (Event e : events) {
            if (e.kind == 1 && e.well == well && (e.hour == hour || e.hour + 1 == hour || e.hour + 2 == hour)) return true;
        }
        return false;
    }

    private static boolean drought(List<Event> events, int hour) {
        for (Event e : events) if (e.kind == 2 && e.hour == hour) return true;
        return false;
    }

    private static List<Moment> walk(List<Well> wells, List<Event> events, Saying s) {
        Moment[] row = new Moment[40];
        for (int h = 0; h < s.hour; h++) row[h] = new Moment(NONE, s.word, false);
        boolean lost = s.well >= wells.size() || covered(events, s.hour, s.well);
        int well = s.well;
        int stayed = 1;
        int came = 0;
        String left = lost ? "" : s.word;
        for (int h = s.hour; h < 40; h++) {
            boolean heard = false;
            if (h > s.hour && !lost) {
                boolean goes = stayed == (wells.get(well).stone == 2 ? 2 : 1);
                boolean coin = events.contains(new Event(0, h, well));
                boolean flees = drought(events, h) && well != last(wells);
                int to = coin ? up(wells, well) : down(wells, well);
                if (flees) {
                    to = last(wells);
                    if (covered(events, h, to)) to = NONE;
                    lost = to == NONE;
                } else if (goes && to == NONE) {
                    stayed = 1;
                } else if (goes) {
                    while (to != NONE && covered(events, h, to)) to = coin ? up(wells, to) : down(wells, to);
                    lost = to == NONE;
                } else {
                    to = NONE;
                    stayed++;
                }
                if (!lost && to != NONE) {
                    well = to;
                    stayed = 1;
                    came++;
                    if (s.bucket == 1 && came % 2 == 0) left = left.substring(1);
                    if (wells.get(to).stone == 1 && !left.isEmpty()) left = left.substring(0, left.length() - 1);
                    heard = !left.isEmpty();
                    lost = left.isEmpty();
                }
            }
            row[h] = lost ? new Moment(NONE, "", false) : new Moment(well, left, heard);
        }
        return Arrays.asList(row);
    }

    private static List<List<Moment>> walks(List<Well> wells, List<Event> events, List<Saying> sayings) {
        List<List<Moment>> all = new ArrayList<>();
        for (Saying s : sayings) all.add(walk(wells, events, s));
        return all;
    }

    private List<List<Moment>> walks() {
        return walks(wells(), events, sayings());
    }

    /** The first hour in which it is heard there; NONE. */
    private static int heardFirst(List<Moment> walk, int well) {
        for (int h = 0; h < 40; h++) if (walk.get(h).heard && walk.get(h).well == well) return h;
        return NONE;
    }

    private static int goneMask(List<List<Moment>> walks) {
        int bits = 0;
        for (int s = 0; s < walks.size(); s++) if (walks.get(s).get(39).left.isEmpty()) bits |= 1 << s;
        return bits;
    }

    private static int heardMask(List<List<Moment>> walks, int well) {
        int bits = 0;
        for (int s = 0; s < walks.size(); s++) if (heardFirst(walks.get(s), well) != NONE) bits |= 1 << s;
        return bits;
    }

    // ---- hours

    int at(int hour, int saying, int what) {
        if (hour < 0 || hour > 39 || saying < 0 || saying >= sayings().size() || what < 0 || what > 4) return BAD;
        Moment m = walks().get(saying).get(hour);
        return what == 0 ? m.well : what == 1 ? m.left.length() : what == 4 ? (m.heard ? 1 : 0)
            : m.left.isEmpty() ? NONE : m.left.charAt(what == 2 ? 0 : m.left.length() - 1) - 'a';
    }

    int hears(int well) {
        return well < 0 || well >= wells().size() ? BAD : heardMask(walks(), well);
    }

    int soon(int well) {
        if (well < 0 || well >= wells().size()) return BAD;
        return walks().stream().mapToInt(w -> heardFirst(w, well)).filter(h -> h != NONE).min().orElse(NONE);
    }

    int gone() {
        return goneMask(walks());
    }

    int babel(int what) {
        if (what < 0 || what > 1) return BAD;
        List<List<Moment>> walks = walks();
        for (int h = 0; h < 40; h++) {
            for (int w = 0; w < 8; w++) {
                int many = 0;
                for (List<Moment> walk : walks) if (walk.get(h).heard && walk.get(h).well == w) many++;
                if (many >= 2) return what == 0 ? h : w;
            }
        }
        return NONE;
    }

    // ---- plans

    int tell(int saying, int well, int what) {
        if (saying < 0 || saying >= sayings().size() || well < 0 || well > 7 || what < 0 || what > 1) return BAD;
        List<Well> wells = wells();
        Saying s = sayings().get(saying);
        int[] hours = new int[wells.size()];
        for (int w = 0; w < hours.length; w++) {
            hours[w] = heardFirst(walk(wells, events, new Saying(s.hour, w, s.bucket, s.word)), well);
        }
        int soonest = Arrays.stream(hours).filter(h -> h != NONE).min().orElse(NONE);
        for (int w = 0; w < hours.length && soonest != NONE; w++) {
            if (hours[w] == soonest) return what == 0 ? w : soonest;
        }
        return NONE;
    }

    int toss(int well, int what) {
        if (well < 0 || well > 7 || what < 0 || what > 2) return BAD;
        List<Well> wells = wells();
        List<Saying> sayings = sayings();
        int[] best = {NONE, NONE, NONE};
        for (int h = 0; h < 40; h++) {
            for (int w = 0; w < wells.size(); w++) {
                List<Event> more = new ArrayList<>(events);
                more.add(new Event(0, h, w));
                int many = Integer.bitCount(heardMask(walks(wells, more, sayings), well));
                if (many > best[2]) best = new int[] {h, w, many};
            }
        }
        return best[what];
    }

    int open(int well, int i) {
        if (well < 0 || well > 7 || i < -1 || i > 1) return BAD;
        List<int[]> sets = new ArrayList<>();
        sets.add(new int[0]);
        for (int e = 0; e < events.size(); e++) sets.add(new int[] {e});
        for (int e = 0; e < events.size(); e++) for (int f = e + 1; f < events.size(); f++) sets.add(new int[] {e, f});
        for (int[] set : sets) {
            List<Event> rest = new ArrayList<>();
            for (int e = 0; e < events.size(); e++) {
                int it = e;
                if (Arrays.stream(set).noneMatch(k -> k == it)) rest.add(events.get(e));
            }
            boolean lids = Arrays.stream(set).allMatch(k -> events.get(k).kind == 1);
            int all = (1 << sayings().size()) - 1;
            if (lids && heardMask(walks(wells(), rest, sayings()), well) == all) {
                return i == NONE ? set.length : i < set.length ? set[i] : NONE;
            }
        }
        return NONE;
    }

    int iron(int what) {
        if (what < 0 || what > 1) return BAD;
        int[] best = {NONE, NONE};
        for (int s = 0; s < sayings().size(); s++) {
            List<Saying> with = sayings();
            Saying was = with.get(s);
            with.set(s, new Saying(was.hour, was.well, 0, was.word));
            int many = Integer.bitCount(goneMask(walks(wells(), events, with)));
            if (best[0] == NONE || many < best[1]) best = new int[] {s, many};
        }
        return best[what];
    }

    // ---- drawn

    int draw(int hour, int saying, int letters) {
        if (hour < 0 || hour > 39 || saying < 0 || saying > 7 || letters < 0 || letters > 4) return BAD;
        if (drawn.size() == 8) return FULL;
        drawn.add(new Drawn(hour, saying, letters));
        return drawn.size();
    }

    int forget() {
        int had = drawn.size();
        drawn.clear();
        return had;
    }

    private boolean fits(List<Well> wells, List<Event> events, List<Saying> sayings) {
        List<List<Moment>> walks = walks(wells, events, sayings);
        for (Drawn d : drawn) {
            if (d.saying >= walks.size() || walks.get(d.saying).get(d.hour).left.length() != d.letters) return false;
        }
        return true;
    }

    int never() {
        int bits = 0;
        for (int e = 0; e < events.size(); e++) {
            List<Event> rest = new ArrayList<>(events);
            rest.remove(e);
            if (fits(wells(), rest, sayings())) bits |= 1 << e;
        }
        return bits;
    }

    private int fitting(int well, int bound, IntFunction<Well> instead) {
        int bits = 0;
        for (int x = 0; x < bound; x++) {
            List<Well> wells = wells();
            wells.set(well, instead.apply(x));
            if (fits(wells, events, sayings())) bits |= 1 << x;
        }
        return bits;
    }

    int stone(int well, int what) {
        if (well < 0 || well >= wells().size() || what < 0 || what > 1) return BAD;
        Well was = wells().get(well);
        return what == 0 ? fitting(well, 3, x -> new Well(x, was.height)) : fitting(well, 10, x -> new Well(was.stone, x));
    }

    int bucket(int saying) {
        if (saying < 0 || saying >= sayings().size()) return BAD;
        int bits = 0;
        for (int b = 0; b < 2; b++) {
            List<Saying> sayings = sayings();
            Saying was = sayings.get(saying);
            sayings.set(saying, new Saying(was.hour, was.well, b, was.word));
            if (fits(wells(), events, sayings)) bits |= 1 << b;
        }
        return bits;
    }

    int ask(int well) {
        if (well < 0 || well >= wells().size()) return BAD;
        int stood = stone(well, 1);
        List<List<List<Moment>>> cases = new ArrayList<>();
        for (int x = 0; x < 10; x++) {
            if ((stood >> x & 1) == 0) continue;
            List<Well> wells = wells();
            wells.set(well, new Well(wells.get(well).stone, x));
            cases.add(walks(wells, events, sayings()));
        }
        int best = NONE;
        int least = Integer.MAX_VALUE;
        for (int h = 0; h < 40; h++) {
            TreeMap<Integer, Integer> groups = new TreeMap<>();
            for (List<List<Moment>> walks : cases) {
                int many = 0;
                for (List<Moment> walk : walks) if (walk.get(h).well == well) many++;
                groups.merge(many, 1, Integer::sum);
            }
            int greatest = groups.values().stream().mapToInt(v -> v).max().orElse(0);
            if (greatest < least) {
                least = greatest;
                best = h;
            }
        }
        return best;
    }

    long chance(int c, int saying, int well, int what) {
        if (c < 0 || c > 16 || saying < 0 || saying >= sayings().size() || well < 0 || well > 7 || what < 0 || what > 1) {
            return Long.MIN_VALUE + 2;
        }
        long above = chanceFrom(new ArrayList<>(), 0, c, wells(), sayings().get(saying), well);
        long below = 1;
        for (int e = 0; e < events.size(); e++) below *= 16;
        long a = above;
        long b = below;
        while (a != 0) {
            long r = b % a;
            b = a;
            a = r;
        }
        return (what == 0 ? above : below) / b;
    }

    private long chanceFrom(List<Event> are, int e, int c, List<Well> wells, Saying saying, int well) {
        if (e == events.size()) return heardFirst(walk(wells, are, saying), well) == NONE ? 0 : 1;
        List<Event> more = new ArrayList<>(are);
        more.add(events.get(e));
        return c * chanceFrom(more, e + 1, c, wells, saying, well)
            + (16 - c) * chanceFrom(are, e + 1, c, wells, saying, well);
    }

    int day(int seed, int n, int what) {
        if (n < 0 || n > 8 || what < 0 || what > 1) return BAD;
        List<Well> wells = wells();
        List<Event> lots = new ArrayList<>();
        int x = seed;
        for (int e = 0; e < n && !wells.isEmpty(); e++) {
            int[] moduli = {3, 40, wells.size()};
            for (int k = 0; k < 3; k++) {
                x = (int) (1103515245L * x + 12345L);
                moduli[k] = (x >> 16 & 0xffff) % moduli[k];
            }
            lots.add(new Event(moduli[0], moduli[1], moduli[2]));
        }
        List<List<Moment>> walks = walks(wells, lots, sayings());
        return Integer.bitCount(what == 0 ? goneMask(walks) : heardMask(walks, last(wells)));
    }

    // ---- sheets

    private int find(int number) {
        latest = number;
        return -10 - number;
    }

    int sheet(int s, int form, int n) {
        if (s < 0 || s > 3 || form < 0 || form > 2 || n > 60) return BAD;
        if (n < 0) return find(5);
        forms[s] = form;
        rows[s] = new int[n];
        return n;
    }

    int lose(int s) {
        if (s < 0 || s > 3) return BAD;
        if (forms[s] == NONE) return find(1);
        forms[s] = NONE;
        return rows[s].length;
    }

    private int cut(int form, int v) {
        return form == 0 ? (byte) v : form == 1 ? (short) v : v;
    }

    int lay(int s, int form, int i, int v) {
        if (s < 0 || s > 3 || form < 0 || form > 2) return BAD;
        if (forms[s] == NONE) return find(1);
        if (forms[s] != form) return find(3);
        if (i < 0 || i >= rows[s].length) return find(2);
        rows[s][i] = cut(form, v);
        return 1;
    }

    int get(int s, int form, int i) {
        if (s < 0 || s > 3 || form < 0 || form > 2) return Integer.MIN_VALUE;
        if (forms[s] == NONE) latest = 1;
        else if (forms[s] != form) latest = 3;
        else if (i < 0 || i >= rows[s].length) latest = 2;
        else return rows[s][i];
        return Integer.MIN_VALUE;
    }

    int copy(int s, int i, int t, int j, int n) {
        if (s < 0 || s > 3 || t < 0 || t > 3) return BAD;
        if (forms[s] == NONE || forms[t] == NONE) return find(1);
        if (forms[s] != forms[t]) return find(4);
        if (i < 0 || j < 0 || n < 0 || (long) i + n > rows[s].length || (long) j + n > rows[t].length) return find(2);
        int[] as = rows[s].clone();
        for (int k = 0; k < n; k++) rows[t][j + k] = as[i + k];
        return 1;
    }

    int write(int saying, int s) {
        if (saying < 0 || saying >= sayings().size() || s < 0 || s > 3) return BAD;
        if (forms[s] == NONE) return find(1);
        List<Moment> walk = walks().get(saying);
        int many = Math.min(40, rows[s].length);
        for (int h = 0; h < many; h++) rows[s][h] = cut(forms[s], walk.get(h).well);
        return many;
    }

    int count(int what) {
        if (what == 0) return wells().size();
        if (what == 1) return sayings().size();
        if (what == 2 || what == 3) return texts.get(what - 2).size();
        if (what == 4) return events.size();
        if (what == 5) return Integer.bitCount(gone());
        if (what == 6) return (int) walks().stream().flatMap(List::stream).filter(Moment::heard).count();
        if (what == 7) return drawn.size();
        return what == 8 ? latest : BAD;
    }

    long digest() {
        List<Long> all = new ArrayList<>();
        for (int k = 0; k < 8; k++) all.add((long) count(k));
        for (int t = 0; t < 2; t++) all.add((long) fault(t));
        for (int w = 0; w < wells().size(); w++) {
            for (int k = 0; k < 4; k++) all.add((long) well(w, k));
            all.add((long) hears(w));
            all.add((long) soon(w));
            for (int k = 0; k < 3; k++) all.add((long) toss(w, k));
            all.add((long) open(w, NONE));
            all.add((long) open(w, 0));
            all.add((long) stone(w, 0));
            all.add((long) stone(w, 1));
            all.add((long) ask(w));
        }
        for (int s = 0; s < sayings().size(); s++) {
            for (int k = 0; k < 8; k++) all.add((long) saying(s, k));
            for (int h : new int[] {0, 8, 20, 39}) for (int k = 0; k < 5; k++) all.add((long) at(h, s, k));
            all.add((long) tell(s, 0, 0));
            all.add((long) tell(s, 0, 1));
            all.add((long) bucket(s));
            all.add(chance(5, s, 0, 0));
            all.add(chance(5, s, 0, 1));
        }
        all.add((long) gone());
        all.add((long) babel(0));
        all.add((long) babel(1));
        all.add((long) iron(0));
        all.add((long) iron(1));
        all.add((long) never());
        all.add((long) day(7, 6, 0));
        all.add((long) day(7, 6, 1));
        long h = 17;
        for (long v : all) h = 31 * h + v;
        return h;
    }
}
