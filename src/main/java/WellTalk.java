import java.util.Arrays;

/** Wells that talk: what is said over one comes up in the next one. ../shared/DOC.md is the document. */
public final class WellTalk {
    public static final int NONE = -1, BAD = -2, NOT = -3, FULL = -4;

    // The numbers of FINDINGS.
    private static final int NULL = 1, INDEX = 2, CAST = 3, STORE = 4, SIZE = 5;
    // WELLS, SAYINGS, EVENTS and DRAWN have the same bound, and a WELL told by an EVENT is below it too.
    private static final int MOST = 8;
    private static final int HOURS = 40, WORD = 4, HEIGHTS = 10, STONES = 3, BUCKETS = 2, KINDS = 3;
    private static final int CHALK = 1, SAND = 2;
    private static final int IRON = 0, WOOD = 1;
    private static final int COIN = 0, LID = 1, DROUGHT = 2;
    private static final int ALL = -1;
    private static final int SHEETS = 4, ITEMS = 60, FORMS = 3, BYTES = 0, SHORTS = 1;
    private static final int SIXTEENTHS = 16;
    private static final int LEAST_INT = 0x80000000;
    private static final long LEAST_LONG = 0x8000000000000000L;

    private final Text[] texts = {new Text(23), new Text(63)};
    private final Wells wells = new Wells();
    private final Sayings sayings = new Sayings();
    private final Events events = new Events();
    private final Draws draws = new Draws();
    private final Sheet[] sheets = {new Sheet(), new Sheet(), new Sheet(), new Sheet()};
    private int latestFinding;

    // How things stand as told; refresh() brings them up to date.
    private final Hours hours = new Hours();
    private final Path[] paths = {new Path(), new Path(), new Path(), new Path(),
        new Path(), new Path(), new Path(), new Path()};
    private boolean stale = true;

    // Room for what would be otherwise.
    private final Wells otherWells = new Wells();
    private final Hours otherHours = new Hours();
    private final Events dayEvents = new Events();
    private final Path trial = new Path();
    private final int[] inWell = new int[HEIGHTS * HOURS];
    private final int[] tally = new int[MOST + 1];

    // The best COIN for each WELL; it is sought for all of them at once, as that is the dearest search.
    private final BestCoin[] bestCoins = {new BestCoin(), new BestCoin(), new BestCoin(), new BestCoin(),
        new BestCoin(), new BestCoin(), new BestCoin(), new BestCoin()};
    private boolean coinsStale = true;

    public WellTalk() {
    }

    // ---- wells, sayings, events

    public int type(int text, int b) {
        if (!in(text, texts.length) || !in(b, 256)) {
            return BAD;
        }
        if (!texts[text].add(b)) {
            return FULL;
        }
        textChanged(text);
        return texts[text].length;
    }

    public int wipe(int text) {
        if (!in(text, texts.length)) {
            return BAD;
        }
        int had = texts[text].length;
        texts[text].length = 0;
        textChanged(text);
        return had;
    }

    public int undo(int text) {
        if (!in(text, texts.length)) {
            return BAD;
        }
        if (texts[text].length == 0) {
            return NOT;
        }
        texts[text].length--;
        textChanged(text);
        return texts[text].length;
    }

    public int fault(int text) {
        return in(text, texts.length) ? texts[text].fault : BAD;
    }

    public int well(int well, int what) {
        if (!in(well, wells.count) || !in(what, 4)) {
            return BAD;
        }
        switch (what) {
            case 0: return wells.stone[well];
            case 1: return wells.height[well];
            case 2: return wells.down[well];
            default: return wells.up[well];
        }
    }

    public int saying(int saying, int what) {
        if (!in(saying, sayings.count) || !in(what, 4 + WORD)) {
            return BAD;
        }
        switch (what) {
            case 0: return sayings.hour[saying];
            case 1: return sayings.well[saying];
            case 2: return sayings.bucket[saying];
            case 3: return sayings.size[saying];
            default: return sayings.letter(saying, what - 4);
        }
    }

    public int event(int kind, int hour, int well) {
        if (!mayBeEvent(kind, hour, well)) {
            return BAD;
        }
        if (!events.add(kind, hour, well)) {
            return FULL;
        }
        changed();
        return events.count;
    }

    public int back() {
        if (events.count == 0) {
            return NOT;
        }
        events.count--;
        changed();
        return events.count;
    }

    public int read(int s) {
        if (!in(s, SHEETS)) {
            return BAD;
        }
        if (sheets[s].isLost()) {
            return finding(NULL);
        }
        int came = addEvents(sheets[s]);
        changed();
        return came;
    }

    // ---- hours

    public int at(int hour, int saying, int what) {
        if (!in(hour, HOURS) || !in(saying, sayings.count) || !in(what, 5)) {
            return BAD;
        }
        refresh();
        Path path = paths[saying];
        int left = path.left[hour];
        switch (what) {
            case 0: return path.well[hour];
            case 1: return left;
            case 2: return left == 0 ? NONE : sayings.letter(saying, path.first[hour]);
            case 3: return left == 0 ? NONE : sayings.letter(saying, path.first[hour] + left - 1);
            default: return path.heard[hour];
        }
    }

    public int hears(int well) {
        if (!in(well, wells.count)) {
            return BAD;
        }
        refresh();
        int bits = 0;
        for (int s = 0; s < sayings.count; s++) {
            if (paths[s].isHeardAt(well)) {
                bits |= 1 << s;
            }
        }
        return bits;
    }

    public int soon(int well) {
        if (!in(well, wells.count)) {
            return BAD;
        }
        refresh();
        int soonest = NONE;
        for (int s = 0; s < sayings.count; s++) {
            int hour = paths[s].firstHeard(well);
            if (hour != NONE && (soonest == NONE || hour < soonest)) {
                soonest = hour;
            }
        }
        return soonest;
    }

    public int gone() {
        refresh();
        int bits = 0;
        for (int s = 0; s < sayings.count; s++) {
            if (paths[s].isGone()) {
                bits |= 1 << s;
            }
        }
        return bits;
    }

    public int babel(int what) {
        if (!in(what, 2)) {
            return BAD;
        }
        refresh();
        for (int h = 0; h < HOURS; h++) {
            int well = leastWellOfTwo(h);
            if (well != NONE) {
                return what == 0 ? h : well;
            }
        }
        return NONE;
    }

    // ---- plans

    public int tell(int saying, int well, int what) {
        if (!in(saying, sayings.count) || !in(well, MOST) || !in(what, 2)) {
            return BAD;
        }
        refresh();
        int which = NONE;
        int soonest = NONE;
        for (int w = 0; w < wells.count; w++) {
            trial.follow(wells, hours, sayings, saying, w, sayings.bucket[saying]);
            int hour = trial.firstHeard(well);
            if (hour != NONE && (soonest == NONE || hour < soonest)) {
                which = w;
                soonest = hour;
            }
        }
        return what == 0 ? which : soonest;
    }

    public int toss(int well, int what) {
        if (!in(well, MOST) || !in(what, 3)) {
            return BAD;
        }
        planCoins();
        switch (what) {
            case 0: return bestCoins[well].hour;
            case 1: return bestCoins[well].well;
            default: return bestCoins[well].many;
        }
    }

    public int open(int well, int i) {
        if (!in(well, MOST) || i != NONE && !in(i, 2)) {
            return BAD;
        }
        if (allHeardWithout(well, 0)) {
            return i == NONE ? 0 : NONE;
        }
        int one = oneLidToOpen(well);
        if (one != NONE) {
            return i == NONE ? 1 : i == 0 ? one : NONE;
        }
        return twoLidsToOpen(well, i);
    }

    public int iron(int what) {
        if (!in(what, 2)) {
            return BAD;
        }
        int gone = gone();
        int which = NONE;
        int fewest = NONE;
        for (int s = 0; s < sayings.count; s++) {
            trial.follow(wells, hours, sayings, s, sayings.well[s], IRON);
            int others = Integer.bitCount(gone & ~(1 << s));
            int many = others + (trial.isGone() ? 1 : 0);
            if (fewest == NONE || many < fewest) {
                which = s;
                fewest = many;
            }
        }
        return what == 0 ? which : fewest;
    }

    // ---- drawn, chance, days

    public int draw(int hour, int saying, int letters) {
        if (!in(hour, HOURS) || !in(saying, MOST) || !in(letters, WORD + 1)) {
            return BAD;
        }
        return draws.add(hour, saying, letters) ? draws.count : FULL;
    }

    public int forget() {
        int had = draws.count;
        draws.count = 0;
        return had;
    }

    public int never() {
        int bits = 0;
        for (int e = 0; e < events.count; e++) {
            otherHours.fill(events, ALL & ~(1 << e));
            if (comesOut(wells, otherHours, NONE, NONE)) {
                bits |= 1 << e;
            }
        }
        return bits;
    }

    public int stone(int well, int what) {
        if (!in(well, wells.count) || !in(what, 2)) {
            return BAD;
        }
        refresh();
        return what == 0 ? stonesOf(well) : heightsOf(well);
    }

    public int bucket(int saying) {
        if (!in(saying, sayings.count)) {
            return BAD;
        }
        refresh();
        int bits = 0;
        for (int b = 0; b < BUCKETS; b++) {
            if (comesOut(wells, hours, saying, b)) {
                bits |= 1 << b;
            }
        }
        return bits;
    }

    public int ask(int well) {
        if (!in(well, wells.count)) {
            return BAD;
        }
        refresh();
        int heights = heightsOf(well);
        countInWell(well, heights);
        int which = NONE;
        int least = NONE;
        for (int h = 0; h < HOURS; h++) {
            int greatest = mostAlike(heights, h);
            if (least == NONE || greatest < least) {
                which = h;
                least = greatest;
            }
        }
        return which;
    }

    public long chance(int c, int saying, int well, int what) {
        if (!in(c, SIXTEENTHS + 1) || !in(saying, sayings.count) || !in(well, MOST) || !in(what, 2)) {
            return LEAST_LONG - BAD;
        }
        long above = heardWeight(c, saying, well);
        long below = power(SIXTEENTHS, events.count);
        if (above == 0) {
            return what == 0 ? 0 : 1;
        }
        // What is below is a power of two: halving is all that lowest terms can ask.
        for (int k = 0; k < 4 * MOST && above % 2 == 0 && below % 2 == 0; k++) {
            above /= 2;
            below /= 2;
        }
        return what == 0 ? above : below;
    }

    public int day(int seed, int n, int what) {
        if (!in(n, MOST + 1) || !in(what, 2)) {
            return BAD;
        }
        drawLots(seed, n);
        otherHours.fill(dayEvents, ALL);
        int gone = 0;
        int heard = 0;
        for (int s = 0; s < sayings.count; s++) {
            trial.follow(wells, otherHours, sayings, s, sayings.well[s], sayings.bucket[s]);
            gone += trial.isGone() ? 1 : 0;
            heard += trial.isHeardAt(wells.last) ? 1 : 0;
        }
        return what == 0 ? gone : heard;
    }

    // ---- sheets

    public int sheet(int s, int form, int n) {
        if (!in(s, SHEETS) || !in(form, FORMS) || n > ITEMS) {
            return BAD;
        }
        if (n < 0) {
            return finding(SIZE);
        }
        sheets[s].renew(form, n);
        return n;
    }

    public int lose(int s) {
        if (!in(s, SHEETS)) {
            return BAD;
        }
        if (sheets[s].isLost()) {
            return finding(NULL);
        }
        int had = sheets[s].size;
        sheets[s].renew(NONE, 0);
        return had;
    }

    public int lay(int s, int form, int i, int v) {
        if (!in(s, SHEETS) || !in(form, FORMS)) {
            return BAD;
        }
        int found = itemFinding(sheets[s], form, i);
        if (found != 0) {
            return finding(found);
        }
        sheets[s].put(i, v);
        return 1;
    }

    public int get(int s, int form, int i) {
        if (!in(s, SHEETS) || !in(form, FORMS)) {
            return LEAST_INT;
        }
        int found = itemFinding(sheets[s], form, i);
        if (found != 0) {
            finding(found);
            return LEAST_INT;
        }
        return sheets[s].items[i];
    }

    public int copy(int s, int i, int t, int j, int n) {
        if (!in(s, SHEETS) || !in(t, SHEETS)) {
            return BAD;
        }
        Sheet from = sheets[s];
        Sheet to = sheets[t];
        if (from.isLost() || to.isLost()) {
            return finding(NULL);
        }
        if (from.form != to.form) {
            return finding(STORE);
        }
        if (!from.hasRun(i, n) || !to.hasRun(j, n)) {
            return finding(INDEX);
        }
        System.arraycopy(from.items, i, to.items, j, n);
        return 1;
    }

    public int write(int saying, int s) {
        if (!in(saying, sayings.count) || !in(s, SHEETS)) {
            return BAD;
        }
        if (sheets[s].isLost()) {
            return finding(NULL);
        }
        refresh();
        int many = Math.min(sheets[s].size, HOURS);
        for (int h = 0; h < many; h++) {
            sheets[s].put(h, paths[saying].well[h]);
        }
        return many;
    }

    public int count(int what) {
        switch (what) {
            case 0: return wells.count;
            case 1: return sayings.count;
            case 2: return texts[0].length;
            case 3: return texts[1].length;
            case 4: return events.count;
            case 5: return Integer.bitCount(gone());
            case 6: return timesHeard();
            case 7: return draws.count;
            case 8: return latestFinding;
            default: return BAD;
        }
    }

    public long digest() {
        long h = 17;
        for (int what = 0; what < 8; what++) {
            h = 31 * h + count(what);
        }
        for (int text = 0; text < texts.length; text++) {
            h = 31 * h + fault(text);
        }
        for (int w = 0; w < wells.count; w++) {
            h = withWell(h, w);
        }
        for (int s = 0; s < sayings.count; s++) {
            h = withSaying(h, s);
        }
        h = 31 * h + gone();
        h = 31 * h + babel(0);
        h = 31 * h + babel(1);
        h = 31 * h + iron(0);
        h = 31 * h + iron(1);
        h = 31 * h + never();
        h = 31 * h + day(7, 6, 0);
        h = 31 * h + day(7, 6, 1);
        return h;
    }

    private long withWell(long before, int w) {
        long h = before;
        for (int what = 0; what < 4; what++) {
            h = 31 * h + well(w, what);
        }
        h = 31 * h + hears(w);
        h = 31 * h + soon(w);
        for (int what = 0; what < 3; what++) {
            h = 31 * h + toss(w, what);
        }
        h = 31 * h + open(w, NONE);
        h = 31 * h + open(w, 0);
        h = 31 * h + stone(w, 0);
        h = 31 * h + stone(w, 1);
        h = 31 * h + ask(w);
        return h;
    }

    private long withSaying(long before, int s) {
        long h = before;
        for (int what = 0; what < 8; what++) {
            h = 31 * h + saying(s, what);
        }
        h = withHour(h, s, 0);
        h = withHour(h, s, 8);
        h = withHour(h, s, 20);
        h = withHour(h, s, 39);
        h = 31 * h + tell(s, 0, 0);
        h = 31 * h + tell(s, 0, 1);
        h = 31 * h + bucket(s);
        h = 31 * h + chance(5, s, 0, 0);
        h = 31 * h + chance(5, s, 0, 1);
        return h;
    }

    private long withHour(long before, int s, int hour) {
        long h = before;
        for (int what = 0; what < 5; what++) {
            h = 31 * h + at(hour, s, what);
        }
        return h;
    }

    // ---- what stands behind them

    private static boolean in(int x, int bound) {
        return x >= 0 && x < bound;
    }

    private static boolean mayBeEvent(int kind, int hour, int well) {
        return in(kind, KINDS) && in(hour, HOURS) && in(well, MOST);
    }

    private void textChanged(int text) {
        texts[text].fault = text == 0 ? wells.take(texts[text]) : sayings.take(texts[text]);
        changed();
    }

    private void changed() {
        stale = true;
        coinsStale = true;
    }

    private void refresh() {
        if (!stale) {
            return;
        }
        hours.fill(events, ALL);
        for (int s = 0; s < sayings.count; s++) {
            paths[s].follow(wells, hours, sayings, s, sayings.well[s], sayings.bucket[s]);
        }
        stale = false;
    }

    private int addEvents(Sheet sheet) {
        int came = 0;
        for (int i = 0; i + 2 < sheet.size; i += 3) {
            int kind = sheet.items[i];
            int hour = sheet.items[i + 1];
            int well = sheet.items[i + 2];
            if (!mayBeEvent(kind, hour, well) || !events.add(kind, hour, well)) {
                break;
            }
            came++;
        }
        return came;
    }

    /** The least well at which two or more are heard in the hour. */
    private int leastWellOfTwo(int hour) {
        int once = 0;
        int twice = 0;
        for (int s = 0; s < sayings.count; s++) {
            if (paths[s].heard[hour] == 1) {
                int bit = 1 << paths[s].well[hour];
                twice |= once & bit;
                once |= bit;
            }
        }
        for (int w = 0; w < wells.count; w++) {
            if ((twice >> w & 1) == 1) {
                return w;
            }
        }
        return NONE;
    }

    private int timesHeard() {
        refresh();
        int many = 0;
        for (int s = 0; s < sayings.count; s++) {
            many += paths[s].timesHeard();
        }
        return many;
    }

    private void planCoins() {
        if (!coinsStale) {
            return;
        }
        refresh();
        for (int t = 0; t < MOST; t++) {
            bestCoins[t].clear();
        }
        for (int h = 0; h < HOURS; h++) {
            for (int w = 0; w < wells.count; w++) {
                countHeard(h, w);
                for (int t = 0; t < MOST; t++) {
                    bestCoins[t].offer(h, w, tally[t]);
                }
            }
        }
        coinsStale = false;
    }

    /** Brings to the tally how many are heard at each well with a coin more of this well in this hour. */
    private void countHeard(int hour, int well) {
        Arrays.fill(tally, 0);
        boolean more = (hours.coins[hour] >> well & 1) == 0;
        if (more) {
            hours.coins[hour] |= 1 << well;
        }
        for (int s = 0; s < sayings.count; s++) {
            Path path = paths[s];
            // A coin can turn only what was in its well already.
            if (more && hour > 0 && path.well[hour - 1] == well) {
                trial.follow(wells, hours, sayings, s, sayings.well[s], sayings.bucket[s]);
                path = trial;
            }
            for (int t = 0; t < wells.count; t++) {
                tally[t] += path.heardAt >> t & 1;
            }
        }
        if (more) {
            hours.coins[hour] &= ~(1 << well);
        }
    }

    private boolean allHeardWithout(int well, int lids) {
        otherHours.fill(events, ALL & ~lids);
        for (int s = 0; s < sayings.count; s++) {
            trial.follow(wells, otherHours, sayings, s, sayings.well[s], sayings.bucket[s]);
            if (!trial.isHeardAt(well)) {
                return false;
            }
        }
        return true;
    }

    private int oneLidToOpen(int well) {
        for (int e = 0; e < events.count; e++) {
            if (events.kind[e] == LID && allHeardWithout(well, 1 << e)) {
                return e;
            }
        }
        return NONE;
    }

    private int twoLidsToOpen(int well, int i) {
        for (int e = 0; e < events.count; e++) {
            for (int f = e + 1; f < events.count; f++) {
                boolean lids = events.kind[e] == LID && events.kind[f] == LID;
                if (lids && allHeardWithout(well, 1 << e | 1 << f)) {
                    return i == NONE ? 2 : i == 0 ? e : f;
                }
            }
        }
        return NONE;
    }

    /** Whether all that was drawn comes out so; the saying told (or NONE) has the bucket told. */
    private boolean comesOut(Wells where, Hours when, int saying, int bucket) {
        for (int d = 0; d < draws.count; d++) {
            int s = draws.saying[d];
            if (!in(s, sayings.count)) {
                return false;
            }
            trial.follow(where, when, sayings, s, sayings.well[s], s == saying ? bucket : sayings.bucket[s]);
            if (trial.left[draws.hour[d]] != draws.letters[d]) {
                return false;
            }
        }
        return true;
    }

    private int stonesOf(int well) {
        otherWells.become(wells);
        int bits = 0;
        for (int x = 0; x < STONES; x++) {
            otherWells.stone[well] = x;
            if (comesOut(otherWells, hours, NONE, NONE)) {
                bits |= 1 << x;
            }
        }
        return bits;
    }

    private int heightsOf(int well) {
        otherWells.become(wells);
        int bits = 0;
        for (int x = 0; x < HEIGHTS; x++) {
            otherWells.raise(well, x);
            if (comesOut(otherWells, hours, NONE, NONE)) {
                bits |= 1 << x;
            }
        }
        return bits;
    }

    /** Counts, for each of the heights and behind each hour, how many sayings are in the well. */
    private void countInWell(int well, int heights) {
        Arrays.fill(inWell, 0);
        otherWells.become(wells);
        for (int x = 0; x < HEIGHTS; x++) {
            if ((heights >> x & 1) == 0) {
                continue;
            }
            otherWells.raise(well, x);
            for (int s = 0; s < sayings.count; s++) {
                trial.follow(otherWells, hours, sayings, s, sayings.well[s], sayings.bucket[s]);
                for (int h = 0; h < HOURS; h++) {
                    inWell[x * HOURS + h] += trial.well[h] == well ? 1 : 0;
                }
            }
        }
    }

    /** The greatest number of these heights by which as many sayings are in the well behind the hour. */
    private int mostAlike(int heights, int hour) {
        Arrays.fill(tally, 0);
        int greatest = 0;
        for (int x = 0; x < HEIGHTS; x++) {
            int many = inWell[x * HOURS + hour];
            if ((heights >> x & 1) == 1 && in(many, tally.length)) {
                tally[many]++;
                greatest = Math.max(greatest, tally[many]);
            }
        }
        return greatest;
    }

    /** Of 16 times 16 .. (one 16 for each event), by how many the saying is ever heard at the well. */
    private long heardWeight(int c, int saying, int well) {
        long sum = 0;
        for (int mask = 0; mask < 1 << events.count; mask++) {
            int are = Integer.bitCount(mask);
            long weight = power(c, are) * power(SIXTEENTHS - c, events.count - are);
            if (weight == 0) {
                continue;
            }
            otherHours.fill(events, mask);
            trial.follow(wells, otherHours, sayings, saying, sayings.well[saying], sayings.bucket[saying]);
            sum += trial.isHeardAt(well) ? weight : 0;
        }
        return sum;
    }

    private static long power(long base, int exponent) {
        long product = 1;
        for (int k = 0; k < exponent; k++) {
            product *= base;
        }
        return product;
    }

    private void drawLots(int seed, int n) {
        dayEvents.count = 0;
        if (wells.count == 0) {
            return;
        }
        int next = seed;
        for (int e = 0; e < n; e++) {
            next = nextSeed(next);
            int kind = lot(next, KINDS);
            next = nextSeed(next);
            int hour = lot(next, HOURS);
            next = nextSeed(next);
            dayEvents.add(kind, hour, lot(next, wells.count));
        }
    }

    private static int nextSeed(int seed) {
        return 1103515245 * seed + 12345;
    }

    private static int lot(int seed, int m) {
        return m > 0 ? (seed >>> 16) % m : 0;
    }

    private int finding(int number) {
        latestFinding = number;
        return -10 - number;
    }

    private static int itemFinding(Sheet sheet, int form, int i) {
        if (sheet.isLost()) {
            return NULL;
        }
        if (sheet.form != form) {
            return CAST;
        }
        return in(i, sheet.size) ? 0 : INDEX;
    }

    /** A text as typed, and the place where it goes wrong. */
    private static final class Text {
        private final int[] bytes;
        private int length;
        private int fault = NONE;

        Text(int room) {
            bytes = new int[Math.max(0, room)];
        }

        boolean add(int b) {
            if (length >= bytes.length) {
                return false;
            }
            bytes[length] = b;
            length++;
            return true;
        }

        /** Which of these signs is at the place; NONE: no one, or the text is at its end. */
        int sign(int place, String signs) {
            return in(place, length) ? signs.indexOf((char) bytes[place]) : NONE;
        }
    }

    /** Wells, and which is beyond which. */
    private static final class Wells {
        private final int[] stone = new int[MOST];
        private final int[] height = new int[MOST];
        private final int[] down = new int[MOST];
        private final int[] up = new int[MOST];
        private int count;
        private int last = NONE;

        /** Takes the wells of a text, none with a fault; answers the fault. */
        int take(Text text) {
            count = 0;
            int fault = text.length == 0 ? NONE : takeAll(text);
            if (fault != NONE) {
                count = 0;
            }
            rank();
            return fault;
        }

        private int takeAll(Text text) {
            int place = 0;
            for (int w = 0; w < MOST; w++) {
                stone[w] = text.sign(place, "gcs");
                if (stone[w] == NONE) {
                    return place;
                }
                height[w] = text.sign(place + 1, "0123456789");
                if (height[w] == NONE) {
                    return place + 1;
                }
                count = w + 1;
                place += 2;
                if (place == text.length) {
                    return NONE;
                }
                if (text.sign(place, ";") == NONE) {
                    return place;
                }
                place++;
            }
            return place;
        }

        void become(Wells other) {
            count = other.count;
            for (int w = 0; w < count; w++) {
                stone[w] = other.stone[w];
                height[w] = other.height[w];
            }
            rank();
        }

        void raise(int well, int high) {
            if (in(well, count)) {
                height[well] = high;
            }
            rank();
        }

        private void rank() {
            last = NONE;
            for (int w = 0; w < count; w++) {
                down[w] = NONE;
                up[w] = NONE;
                for (int v = 0; v < count; v++) {
                    if (height[v] < height[w] && (down[w] == NONE || height[v] > height[down[w]])) {
                        down[w] = v;
                    }
                    if (height[v] > height[w] && (up[w] == NONE || height[v] < height[up[w]])) {
                        up[w] = v;
                    }
                }
                if (last == NONE || height[w] < height[last]) {
                    last = w;
                }
            }
        }

        int stay(int well) {
            return well >= 0 && well < count && stone[well] == SAND ? 2 : 1;
        }
    }

    /** Sayings as told. */
    private static final class Sayings {
        private final int[] hour = new int[MOST];
        private final int[] well = new int[MOST];
        private final int[] bucket = new int[MOST];
        private final int[] size = new int[MOST];
        private final int[] letters = new int[MOST * WORD];
        private int count;

        /** Takes the sayings of a text, none with a fault; answers the fault. */
        int take(Text text) {
            count = 0;
            int fault = text.length == 0 ? NONE : takeAll(text);
            if (fault != NONE) {
                count = 0;
            }
            return fault;
        }

        private int takeAll(Text text) {
            int place = 0;
            for (int s = 0; s < MOST; s++) {
                int fault = takeHead(text, place, s);
                if (fault != NONE) {
                    return fault;
                }
                place += 3;
                size[s] = takeWord(text, place, s);
                if (size[s] == 0) {
                    return place;
                }
                count = s + 1;
                place += size[s];
                if (place == text.length) {
                    return NONE;
                }
                if (text.sign(place, ";") == NONE) {
                    return place;
                }
                place++;
            }
            return place;
        }

        private int takeHead(Text text, int place, int s) {
            hour[s] = text.sign(place, "abcdefghijklmnopqrstuvwx");
            if (hour[s] == NONE) {
                return place;
            }
            well[s] = text.sign(place + 1, "01234567");
            if (well[s] == NONE) {
                return place + 1;
            }
            bucket[s] = text.sign(place + 2, "iw");
            return bucket[s] == NONE ? place + 2 : NONE;
        }

        private int takeWord(Text text, int place, int s) {
            for (int k = 0; k < WORD; k++) {
                int letter = text.sign(place + k, "abcdefgh");
                if (letter == NONE) {
                    return k;
                }
                letters[s * WORD + k] = letter;
            }
            return WORD;
        }

        /** The k-th letter of a saying; NONE: it has not so many. */
        int letter(int s, int k) {
            return in(s, count) && in(k, size[s]) ? letters[s * WORD + k] : NONE;
        }
    }

    /** Events, behind one another. */
    private static final class Events {
        private final int[] kind = new int[MOST];
        private final int[] hour = new int[MOST];
        private final int[] well = new int[MOST];
        private int count;

        boolean add(int ofKind, int atHour, int ofWell) {
            if (count >= MOST) {
                return false;
            }
            kind[count] = ofKind;
            hour[count] = atHour;
            well[count] = ofWell;
            count++;
            return true;
        }
    }

    /** What events make of each hour. */
    private static final class Hours {
        // Wells, as bits.
        private final int[] coins = new int[HOURS];
        private final int[] covered = new int[HOURS];
        private final boolean[] dry = new boolean[HOURS];

        /** Takes those of the events whose bits are in the mask. */
        void fill(Events events, int mask) {
            for (int h = 0; h < HOURS; h++) {
                coins[h] = 0;
                covered[h] = 0;
                dry[h] = false;
            }
            for (int e = 0; e < events.count; e++) {
                if ((mask >> e & 1) == 1 && in(events.hour[e], HOURS)) {
                    put(events.kind[e], events.hour[e], 1 << events.well[e]);
                }
            }
        }

        private void put(int kind, int hour, int wellBit) {
            if (kind == COIN) {
                coins[hour] |= wellBit;
            }
            if (kind == LID) {
                for (int h = hour; h < HOURS && h < hour + 3; h++) {
                    covered[h] |= wellBit;
                }
            }
            if (kind == DROUGHT) {
                dry[hour] = true;
            }
        }
    }

    /** Where one saying is behind each hour, and what is left of it. */
    private static final class Path {
        private final int[] well = new int[HOURS];
        private final int[] first = new int[HOURS];
        private final int[] left = new int[HOURS];
        private final int[] heard = new int[HOURS];
        private int heardAt;

        // How it stands in the hour that is being followed.
        private int place;
        private int due;
        private int comes;
        private int from;
        private int rest;

        void follow(Wells wells, Hours hours, Sayings sayings, int saying, int over, int bucket) {
            place = NONE;
            comes = 0;
            from = 0;
            rest = sayings.size[saying];
            heardAt = 0;
            for (int h = 0; h < HOURS; h++) {
                heard[h] = 0;
                if (h == sayings.hour[saying]) {
                    begin(wells, hours.covered[h], over);
                    due = h + wells.stay(place);
                } else if (place != NONE) {
                    int to = next(wells, hours, h);
                    boolean settles = to != place || h == due;
                    if (to != place) {
                        come(to, to != NONE && wells.stone[to] == CHALK, bucket == WOOD);
                        heard[h] = place == NONE ? 0 : 1;
                    }
                    if (settles) {
                        due = h + wells.stay(place);
                    }
                }
                well[h] = place;
                first[h] = from;
                left[h] = rest;
            }
        }

        private void begin(Wells wells, int covered, int over) {
            if (over >= 0 && over < wells.count && (covered >> over & 1) == 0) {
                place = over;
            } else {
                rest = 0;
            }
        }

        /** The well to which it goes in this hour, its own if it stays; NONE: it is lost. */
        private int next(Wells wells, Hours hours, int h) {
            int covered = hours.covered[h];
            if (hours.dry[h] && place != wells.last) {
                return (covered >> wells.last & 1) == 1 ? NONE : wells.last;
            }
            if (h != due) {
                return place;
            }
            int[] beyond = (hours.coins[h] >> place & 1) == 1 ? wells.up : wells.down;
            int to = beyond[place];
            if (to == NONE) {
                return place;
            }
            for (int k = 0; k < MOST && to != NONE && (covered >> to & 1) == 1; k++) {
                to = beyond[to];
            }
            return to;
        }

        private void come(int to, boolean isChalk, boolean isWooden) {
            place = to;
            if (to == NONE) {
                rest = 0;
                return;
            }
            comes++;
            if (isWooden && comes % 2 == 0) {
                from++;
                rest--;
            }
            if (isChalk && rest > 0) {
                rest--;
            }
            if (rest == 0) {
                place = NONE;
                return;
            }
            heardAt |= 1 << to;
        }

        boolean isHeardAt(int where) {
            return in(where, MOST) && (heardAt >> where & 1) == 1;
        }

        /** The first hour in which it is heard at the well; NONE: in none. */
        int firstHeard(int where) {
            for (int h = 0; h < HOURS; h++) {
                if (heard[h] == 1 && well[h] == where) {
                    return h;
                }
            }
            return NONE;
        }

        int timesHeard() {
            int many = 0;
            for (int h = 0; h < HOURS; h++) {
                many += heard[h];
            }
            return many;
        }

        boolean isGone() {
            return left[HOURS - 1] == 0;
        }
    }

    /** The coin that had better be thrown in for one well. */
    private static final class BestCoin {
        private int hour = NONE;
        private int well = NONE;
        private int many = NONE;

        void clear() {
            hour = NONE;
            well = NONE;
            many = NONE;
        }

        void offer(int atHour, int ofWell, int heard) {
            if (heard > many) {
                hour = atHour;
                well = ofWell;
                many = heard;
            }
        }
    }

    /** What was drawn. */
    private static final class Draws {
        private final int[] hour = new int[MOST];
        private final int[] saying = new int[MOST];
        private final int[] letters = new int[MOST];
        private int count;

        boolean add(int atHour, int ofSaying, int many) {
            if (count >= MOST) {
                return false;
            }
            hour[count] = atHour;
            saying[count] = ofSaying;
            letters[count] = many;
            count++;
            return true;
        }
    }

    /** A sheet: a row of a form, or lost (its form is NONE). */
    private static final class Sheet {
        private final int[] items = new int[ITEMS];
        private int form = NONE;
        private int size;

        void renew(int newForm, int n) {
            form = newForm;
            size = n;
            Arrays.fill(items, 0);
        }

        boolean isLost() {
            return form == NONE;
        }

        /** Item i becomes the lowest bits of v that an item has, with its sign. */
        void put(int i, int v) {
            if (in(i, size)) {
                items[i] = form == BYTES ? (byte) v : form == SHORTS ? (short) v : v;
            }
        }

        /** Whether there are n items from i on. */
        boolean hasRun(int i, int n) {
            return i >= 0 && n >= 0 && i <= size - n;
        }
    }
}
