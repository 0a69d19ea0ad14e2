import java.util.Arrays;

/** A town with five square houses round each crossing, told by ../shared/DOC.md. */
public final class WideTown {
    public static final int BAD = -1, FULL = -2, FINDING = -3, STATE = -4, SPENT = -6, NONE = -9;

    private static final int NOTHING = 1, BEYOND = 2, UNLIKE = 3, NOUGHT = 4, SIZE = 5;
    private static final int WALKER = 0, STRAIGHT = 1, CIRCLER = 2, HOMER = 3, RUNNER = 4, LOST = 5;
    private static final int ROWS = 6, ROW_SIZE = 40, TEXTS = 4, TEXT_SIZE = 80, KEPT = 3;
    private static final int STREETS = 5, CODE_SIZE = 9, LAST_CODE = 555555555;
    private static final int WALKERS = 5, LAST_HOUR = 60, HOURS_AT_ONCE = 20, HOURS_AHEAD = 40;
    private static final int FARTHEST_RING = 30, FARTHEST_BEYOND = 20;
    private static final int ROUND_CODES = 6, POST_CODES = 20, POST_FAR = 3, GUARDS = 20, FIRE_HOURS = 4;
    private static final int MOST_LOTS = 60, LOT_FACTOR = 48271, LOT_MODULUS = 2147483647;
    private static final int FARTHER_THAN_ANY = 1000000;
    private static final int WHITE = 32, FIGURE_0 = 48, WORD_IN_TEXT = 4;

    private final int[][] rows = new int[ROWS][ROW_SIZE];
    private final int[] rowSize = new int[ROWS];
    private final byte[][] texts = new byte[TEXTS][TEXT_SIZE];
    private final int[] textSize = new int[TEXTS];
    private final Reader reader = new Reader();
    private final Town now = new Town();
    private final Town[] kept = new Town[KEPT];
    private final Word word = new Word();
    private final Walker one = new Walker();
    private final Walker other = new Walker();
    private final Ideals ideals = new Ideals();
    private final Triangle triangle = new Triangle();
    private final Tour tour = new Tour();
    private final Quarter quarter = new Quarter();
    private final int[] findingTimes = new int[SIZE + 1];
    private int lastFinding = 0;
    private int lastAsked = 0;
    private long lastUpper = 0;
    private long lastLower = 1;

    public WideTown() {
        Arrays.fill(rowSize, -1);
        Arrays.fill(textSize, -1);
        for (int k = 0; k < KEPT; k++) {
            kept[k] = new Town();
        }
    }

    // ---- 1 rows, texts, towns

    public int row(int r, int n) {
        if (!isRow(r) || n > ROW_SIZE) {
            return BAD;
        }
        if (n < 0) {
            return found(SIZE);
        }
        renewRow(r, n);
        return n;
    }

    public int lay(int r, int i, int v) {
        int refusal = placeRefusal(r, i);
        if (refusal != 0) {
            return refusal;
        }
        lastAsked = rows[r][i];
        rows[r][i] = v;
        return 1;
    }

    public int at(int r, int i) {
        int refusal = placeRefusal(r, i);
        if (refusal != 0) {
            return refusal;
        }
        lastAsked = rows[r][i];
        return 1;
    }

    public int tear(int r) {
        int refusal = rowRefusal(r);
        if (refusal != 0) {
            return refusal;
        }
        rowSize[r] = -1;
        return 1;
    }

    public int copy(int r, int i, int to, int j, int n) {
        if (!isRow(r) || !isRow(to)) {
            return BAD;
        }
        if (n < 0) {
            return found(SIZE);
        }
        if (rowSize[r] < 0 || rowSize[to] < 0) {
            return found(NOTHING);
        }
        if (!hasPlaces(rowSize[r], i, n) || !hasPlaces(rowSize[to], j, n)) {
            return found(BEYOND);
        }
        System.arraycopy(rows[r], i, rows[to], j, n);
        return 1;
    }

    public int mean(int r) {
        int refusal = rowRefusal(r);
        if (refusal != 0) {
            return refusal;
        }
        int size = rowSize[r];
        if (size == 0) {
            return found(NOUGHT);
        }
        long sum = 0;
        for (int i = 0; i < size; i++) {
            sum += rows[r][i];
        }
        lastAsked = (int) (sum / size);
        return 1;
    }

    public int text(int t, int n) {
        if (!isText(t) || n > TEXT_SIZE) {
            return BAD;
        }
        if (n < 0) {
            return found(SIZE);
        }
        textSize[t] = n;
        Arrays.fill(texts[t], (byte) WHITE);
        return n;
    }

    public int put(int t, int i, int v) {
        int refusal = textRefusal(t);
        if (refusal != 0) {
            return refusal;
        }
        if (i < 0 || i >= textSize[t]) {
            return found(BEYOND);
        }
        int before = texts[t][i];
        texts[t][i] = (byte) v;
        return before + 1000;
    }

    public int fault(int t) {
        int refusal = textRefusal(t);
        if (refusal != 0) {
            return refusal;
        }
        return reader.read(texts[t], textSize[t]);
    }

    public int town(int t) {
        int refusal = textRefusal(t);
        if (refusal != 0) {
            return refusal;
        }
        if (reader.read(texts[t], textSize[t]) != NONE) {
            return STATE;
        }
        now.settle(reader, word);
        for (int k = 0; k < KEPT; k++) {
            kept[k].size = 0;
        }
        return now.size;
    }

    public int walker(int i, int what) {
        if (!isWalker(i) || what < 0 || what > 4) {
            return BAD;
        }
        lastAsked = factOf(i, what);
        return 1;
    }

    public int mark(int i, int kind) {
        if (!isWalker(i) || kind <= WALKER || kind > LOST) {
            return BAD;
        }
        now.load(i, one);
        if (!one.is(kind)) {
            return found(UNLIKE);
        }
        switch (kind) {
            case STRAIGHT:
                one.turn();
                return one.heading;
            case CIRCLER:
                return driftOf(one);
            case HOMER:
                word.becomes(one.place);
                return Integer.bitCount(word.lastStreets());
            case RUNNER:
                one.passHour(word);
                word.becomes(one.place);
                return word.size;
            default:
                return now.othersAt(i);
        }
    }

    public int stand(int i, int code) {
        if (!isWalker(i) || !isCode(code)) {
            return BAD;
        }
        now.load(i, one);
        int before = one.place;
        one.place = plainOf(code);
        now.store(i, one);
        return before;
    }

    public int head(int i, int street) {
        if (!isWalker(i) || !isStreet(street)) {
            return BAD;
        }
        now.load(i, one);
        int before = one.heading;
        one.heading = street;
        one.turned = 0;
        now.store(i, one);
        return before;
    }

    // ---- 2 hours

    public int hours(int n) {
        if (n < 0 || n > HOURS_AT_ONCE) {
            return BAD;
        }
        if (now.size == 0) {
            return STATE;
        }
        if (now.hour + n > LAST_HOUR) {
            return FULL;
        }
        for (int k = 0; k < n; k++) {
            now.passHour(one, word);
        }
        return now.hour;
    }

    public int undo(int n) {
        if (n < 0 || n > now.hour) {
            return BAD;
        }
        int undone = now.hour - n;
        now.hour = n;
        return undone;
    }

    public int keep(int k) {
        if (!isKeepingPlace(k)) {
            return BAD;
        }
        if (now.size == 0) {
            return STATE;
        }
        kept[k].becomes(now);
        return now.hour;
    }

    public int on(int k) {
        if (!isKeepingPlace(k)) {
            return BAD;
        }
        if (kept[k].size == 0) {
            return found(NOTHING);
        }
        now.becomes(kept[k]);
        return now.hour;
    }

    // ---- 3 crossings by codes

    public int plain(int a) {
        if (!isCode(a)) {
            return BAD;
        }
        return plainOf(a);
    }

    public int join(int a, int b) {
        if (!isCode(a) || !isCode(b)) {
            return BAD;
        }
        word.becomes(a);
        word.goAlong(b);
        return word.code();
    }

    public int back(int a) {
        if (!isCode(a)) {
            return BAD;
        }
        word.clear();
        word.goBackAlong(a);
        return word.code();
    }

    public int far(int a, int b) {
        if (!isCode(a) || !isCode(b)) {
            return BAD;
        }
        return gap(a, b);
    }

    public int ends(int a) {
        if (!isCode(a)) {
            return BAD;
        }
        word.becomes(a);
        return word.lastStreets();
    }

    public int begins(int a) {
        if (!isCode(a)) {
            return BAD;
        }
        word.clear();
        word.goBackAlong(a);
        return word.lastStreets();
    }

    public int ways(int a, int b) {
        if (!isCode(a) || !isCode(b)) {
            return BAD;
        }
        word.becomesWay(a, b);
        ideals.tally(word);
        return tell(ideals.words, 1);
    }

    public int between(int a, int b) {
        if (!isCode(a) || !isCode(b)) {
            return BAD;
        }
        word.becomesWay(a, b);
        ideals.tally(word);
        return ideals.crossings;
    }

    public int lies(int a, int b, int on) {
        if (!isCode(a) || !isCode(b) || !isCode(on)) {
            return BAD;
        }
        return gap(a, on) + gap(on, b) == gap(a, b) ? 1 : 0;
    }

    public int path(int a, int b, int r) {
        if (!isCode(a) || !isCode(b) || !isRow(r)) {
            return BAD;
        }
        word.becomesWay(a, b);
        renewRow(r, word.size);
        for (int i = 0; i < rowSize[r]; i++) {
            rows[r][i] = word.streetAt(i);
        }
        return word.size;
    }

    public int thin(int a, int b, int c) {
        if (!isCode(a) || !isCode(b) || !isCode(c)) {
            return BAD;
        }
        return triangle.width(a, b, c);
    }

    // ---- 4 how many

    public int ring(int n) {
        if (n < 0 || n > FARTHEST_RING) {
            return BAD;
        }
        return tell(crossingsAt(n), 1);
    }

    public int within(int n) {
        if (n < 0 || n > FARTHEST_RING) {
            return BAD;
        }
        return tell(crossingsUpTo(n), 1);
    }

    public int edge(int n) {
        if (n < 0 || n > FARTHEST_RING) {
            return BAD;
        }
        return tell(crossingsAt(n), crossingsUpTo(n));
    }

    public int beyond(int a, int n) {
        if (!isCode(a) || n < 0 || n > FARTHEST_BEYOND) {
            return BAD;
        }
        word.becomes(a);
        int shut = Integer.bitCount(word.lastStreets());
        if (shut == 0) {
            return tell(crossingsAt(n), 1);
        }
        return tell(shut == 1 ? crossingsNotBy1(n) : crossingsNotBy2(n), 1);
    }

    public int houses(int n) {
        if (n < 0 || n > FARTHEST_BEYOND) {
            return BAD;
        }
        // each house has one corner nearest HOME: from there both its streets lead farther
        long sum = 0;
        for (int k = 0; k <= n; k++) {
            sum += STREETS * crossingsNotBy2(k);
        }
        return tell(sum, 1);
    }

    // ---- 5 walks by rows of streets

    public int walk(int r) {
        int refusal = streetsRefusal(r);
        if (refusal != 0) {
            return refusal;
        }
        word.clear();
        for (int i = 0; i < rowSize[r]; i++) {
            word.go(rows[r][i]);
        }
        if (word.size > CODE_SIZE) {
            return SPENT;
        }
        lastAsked = rowSize[r] - word.size;
        return word.code();
    }

    public int reaches(int r) {
        int refusal = streetsRefusal(r);
        if (refusal != 0) {
            return refusal;
        }
        int farthest = 0;
        int behind = 0;
        word.clear();
        for (int i = 0; i < rowSize[r]; i++) {
            word.go(rows[r][i]);
            if (word.size > farthest) {
                farthest = word.size;
                behind = i + 1;
            }
        }
        lastAsked = behind;
        return farthest;
    }

    public int sees(int r) {
        int refusal = streetsRefusal(r);
        if (refusal != 0) {
            return refusal;
        }
        int seen = 0;
        for (int i = 0; i <= rowSize[r]; i++) {
            if (!comesAgain(r, i)) {
                seen++;
            }
        }
        return seen;
    }

    public int round(int r, int to) {
        if (!isRow(to)) {
            return BAD;
        }
        int refusal = codesRefusal(r, ROUND_CODES);
        if (refusal != 0) {
            return refusal;
        }
        int size = rowSize[r];
        tour.measure(rows[r], size, word);
        tour.search();
        renewRow(to, size);
        for (int i = 0; i < size; i++) {
            rows[to][i] = tour.best[i];
        }
        return tour.shortest;
    }

    public int post(int r) {
        int refusal = codesRefusal(r, POST_CODES);
        if (refusal != 0) {
            return refusal;
        }
        quarter.survey(word);
        int best = 0;
        int least = FARTHER_THAN_ANY;
        for (int c = 0; c < quarter.size && quarter.away[c] <= POST_FAR; c++) {
            int sum = 0;
            for (int i = 0; i < rowSize[r]; i++) {
                sum += gap(quarter.codes[c], rows[r][i]);
            }
            if (sum < least) {
                least = sum;
                best = quarter.codes[c];
            }
        }
        lastAsked = least;
        return best;
    }

    // ---- 6 fires

    public int burns(int r, int n) {
        if (n < 0 || n > FIRE_HOURS) {
            return BAD;
        }
        int refusal = codesRefusal(r, GUARDS);
        if (refusal != 0) {
            return refusal;
        }
        postGuards(r);
        return quarter.burn(NONE, n);
    }

    public int held(int r) {
        int refusal = codesRefusal(r, GUARDS);
        if (refusal != 0) {
            return refusal;
        }
        postGuards(r);
        lastAsked = quarter.burn(NONE, FIRE_HOURS);
        return quarter.edgeBurns() ? 0 : 1;
    }

    public int idle(int r) {
        int refusal = codesRefusal(r, GUARDS);
        if (refusal != 0) {
            return refusal;
        }
        postGuards(r);
        int burning = quarter.burn(NONE, FIRE_HOURS);
        for (int i = 0; i < rowSize[r]; i++) {
            if (quarter.burn(i, FIRE_HOURS) == burning) {
                return i;
            }
        }
        return NONE;
    }

    // ---- 7 who meets (aside)

    public int meet(int i, int j) {
        if (!isWalker(i) || !isWalker(j) || i == j) {
            return BAD;
        }
        now.load(i, one);
        now.load(j, other);
        for (int n = 0; n <= HOURS_AHEAD; n++) {
            if (one.place == other.place) {
                lastAsked = one.place;
                return n;
            }
            one.passHour(word);
            other.passHour(word);
        }
        return NONE;
    }

    public int part(int i, int j, int n) {
        if (!isWalker(i) || !isWalker(j) || i == j || n < 0 || n > HOURS_AHEAD) {
            return BAD;
        }
        now.load(i, one);
        now.load(j, other);
        for (int k = 0; k < n; k++) {
            one.passHour(word);
            other.passHour(word);
        }
        return gap(one.place, other.place);
    }

    public int drunk(int n, int seed) {
        if (n < 1 || n > MOST_LOTS || seed < 1 || seed >= LOT_MODULUS) {
            return BAD;
        }
        long lot = seed;
        int home = 0;
        word.clear();
        for (int k = 0; k < n; k++) {
            lot = lot * LOT_FACTOR % LOT_MODULUS;
            if (word.goNear((int) (lot % STREETS)) && word.size == 0) {
                home++;
            }
        }
        lastAsked = home;
        return word.code();
    }

    // ---- 8 what is told

    public int asked() {
        return lastAsked;
    }

    public long upper() {
        return lastUpper;
    }

    public long lower() {
        return lastLower;
    }

    public int count(int what) {
        switch (what) {
            case 0:
                return now.size;
            case 1:
                return now.hour;
            case 2:
                return now.howManyAre(STRAIGHT);
            case 3:
                return now.howManyAre(CIRCLER);
            case 4:
                return now.howManyAtHome();
            case 5:
                return howManyKept();
            case 6:
                return howManyThere(rowSize);
            case 7:
                return howManyThere(textSize);
            default:
                return BAD;
        }
    }

    public int finding() {
        return lastFinding;
    }

    public int findings(int f) {
        if (f < NOTHING || f > SIZE) {
            return BAD;
        }
        return findingTimes[f];
    }

    public long digest() {
        long h = 17;
        for (int what = 0; what < 8; what++) {
            h = 31 * h + count(what);
        }
        for (int i = 0; i < now.size; i++) {
            for (int what = 0; what < 5; what++) {
                h = 31 * h + factOf(i, what);
            }
        }
        for (int k = 0; k < KEPT; k++) {
            h = 31 * h + (kept[k].size == 0 ? -1 : kept[k].hour);
        }
        for (int r = 0; r < ROWS; r++) {
            h = 31 * h + rowSize[r];
            for (int i = 0; i < rowSize[r]; i++) {
                h = 31 * h + rows[r][i];
            }
        }
        for (int t = 0; t < TEXTS; t++) {
            h = 31 * h + textSize[t];
            for (int i = 0; i < textSize[t]; i++) {
                h = 31 * h + texts[t][i];
            }
        }
        return h;
    }

    // ---- what is refused

    private int found(int f) {
        lastFinding = f;
        if (f >= NOTHING && f <= SIZE) {
            findingTimes[f]++;
        }
        return FINDING;
    }

    private static boolean isRow(int r) {
        return r >= 0 && r < ROWS;
    }

    private static boolean isText(int t) {
        return t >= 0 && t < TEXTS;
    }

    private static boolean isKeepingPlace(int k) {
        return k >= 0 && k < KEPT;
    }

    private static boolean isStreet(int street) {
        return street >= 0 && street < STREETS;
    }

    private boolean isWalker(int i) {
        return i >= 0 && i < now.size;
    }

    private static boolean isCode(int code) {
        if (code < 0 || code > LAST_CODE) {
            return false;
        }
        for (int rest = code; rest > 0; rest /= 10) {
            if (!isStreet(rest % 10 - 1)) {
                return false;
            }
        }
        return true;
    }

    private static boolean hasPlaces(int size, int from, int n) {
        // size - from, not from + n: that could pass the greatest int
        return from >= 0 && from <= size && n <= size - from;
    }

    /** 0 if the ROW is there, else what is answered instead (so in the refusals below). */
    private int rowRefusal(int r) {
        if (!isRow(r)) {
            return BAD;
        }
        return rowSize[r] < 0 ? found(NOTHING) : 0;
    }

    private int placeRefusal(int r, int i) {
        int refusal = rowRefusal(r);
        if (refusal != 0) {
            return refusal;
        }
        return i < 0 || i >= rowSize[r] ? found(BEYOND) : 0;
    }

    private int textRefusal(int t) {
        if (!isText(t)) {
            return BAD;
        }
        return textSize[t] < 0 ? found(NOTHING) : 0;
    }

    private int streetsRefusal(int r) {
        int refusal = rowRefusal(r);
        if (refusal != 0) {
            return refusal;
        }
        for (int i = 0; i < rowSize[r]; i++) {
            if (!isStreet(rows[r][i])) {
                return found(UNLIKE);
            }
        }
        return 0;
    }

    private int codesRefusal(int r, int most) {
        int refusal = rowRefusal(r);
        if (refusal != 0) {
            return refusal;
        }
        if (rowSize[r] > most) {
            return found(SIZE);
        }
        for (int i = 0; i < rowSize[r]; i++) {
            if (!isCode(rows[r][i])) {
                return found(UNLIKE);
            }
        }
        return 0;
    }

    // ---- helpers of the calls

    private void renewRow(int r, int n) {
        rowSize[r] = n;
        Arrays.fill(rows[r], 0);
    }

    private int tell(long upper, long lower) {
        long divisor = commonDivisor(upper, lower);
        if (divisor > 0) {
            lastUpper = upper / divisor;
            lastLower = lower / divisor;
        }
        return 1;
    }

    private static long commonDivisor(long a, long b) {
        long more = a;
        long less = b;
        // the remainders at least halve in two rounds, so a long has no 200 of them
        for (int k = 0; k < 200 && less > 0; k++) {
            long rest = more % less;
            more = less;
            less = rest;
        }
        return more;
    }

    private int plainOf(int code) {
        word.becomes(code);
        return word.code();
    }

    private int gap(int a, int b) {
        word.becomesWay(a, b);
        return word.size;
    }

    private int factOf(int i, int what) {
        now.load(i, one);
        switch (what) {
            case 0:
                return one.kind;
            case 1:
                return one.place;
            case 2:
                return one.heading;
            case 3:
                return one.went;
            default:
                word.becomes(one.place);
                return word.size;
        }
    }

    private int driftOf(Walker walker) {
        int from = walker.place;
        for (int k = 0; k < 4; k++) {
            walker.passStreet(word);
        }
        return gap(from, walker.place);
    }

    private boolean comesAgain(int r, int from) {
        word.clear();
        for (int i = from; i < rowSize[r]; i++) {
            word.go(rows[r][i]);
            if (word.size == 0) {
                return true;
            }
        }
        return false;
    }

    private void postGuards(int r) {
        quarter.survey(word);
        quarter.guards = 0;
        for (int i = 0; i < rowSize[r]; i++) {
            quarter.addGuard(plainOf(rows[r][i]));
        }
    }

    private int howManyKept() {
        int there = 0;
        for (int k = 0; k < KEPT; k++) {
            if (kept[k].size > 0) {
                there++;
            }
        }
        return there;
    }

    private static int howManyThere(int[] sizes) {
        int there = 0;
        for (int size : sizes) {
            if (size >= 0) {
                there++;
            }
        }
        return there;
    }

    // ---- how many crossings

    private static long crossingsAt(int n) {
        if (n <= 0) {
            return n == 0 ? 1 : 0;
        }
        long inner = 0;
        long outer = STREETS;
        for (int k = 1; k < n; k++) {
            long next = 3 * outer - inner;
            inner = outer;
            outer = next;
        }
        return outer;
    }

    private static long crossingsUpTo(int n) {
        long sum = 0;
        for (int k = 0; k <= n; k++) {
            sum += crossingsAt(k);
        }
        return sum;
    }

    /** CROSSINGS n far of which no shortest WORD begins by one given STREET. */
    private static long crossingsNotBy1(int n) {
        long left = 0;
        for (int k = 0; k <= n; k++) {
            // those that do begin so are that STREET and then one of the ring ahead that doesn't
            left = crossingsAt(k) - left;
        }
        return left;
    }

    /** CROSSINGS n far of which no shortest WORD begins by either of two given NEIGHBOURS. */
    private static long crossingsNotBy2(int n) {
        long left = 0;
        for (int k = n % 2; k <= n; k += 2) {
            // who begins by both was taken off twice
            left = crossingsAt(k) - 2 * crossingsNotBy1(k - 1) + left;
        }
        return left;
    }

    /** A CROSSING as its PLAIN WORD; STREETS come behind it one by one. */
    private static final class Word {
        // a ROW of 40 STREETS is the longest that is ever gone
        private static final int LONGEST = 64;

        final int[] streets = new int[LONGEST];
        int size = 0;

        static boolean areNeighbours(int x, int y) {
            int apart = x > y ? x - y : y - x;
            return apart == 1 || apart == STREETS - 1;
        }

        int streetAt(int i) {
            return i >= 0 && i < size ? streets[i] : 0;
        }

        void clear() {
            size = 0;
        }

        void becomes(int code) {
            size = 0;
            goAlong(code);
        }

        void becomesWay(int fromCode, int toCode) {
            size = 0;
            goBackAlong(fromCode);
            goAlong(toCode);
        }

        void goAlong(int code) {
            int unit = 1;
            for (int k = 1; k < CODE_SIZE && code / unit >= 10; k++) {
                unit *= 10;
            }
            for (; unit > 0; unit /= 10) {
                go(code / unit % 10 - 1);
            }
        }

        void goBackAlong(int code) {
            for (int rest = code; rest > 0; rest /= 10) {
                go(rest % 10 - 1);
            }
        }

        /** One STREET more; what is no STREET (HOME's figure 0) is passed. */
        void go(int street) {
            if (!isStreet(street)) {
                return;
            }
            int place = size;
            while (place > 0 && areNeighbours(streets[place - 1], street)) {
                place--;
            }
            if (place > 0 && streets[place - 1] == street) {
                takeOut(place - 1);
                return;
            }
            // only STREETS that may be changed with it are behind: the first greater one yields
            while (place < size && streets[place] < street) {
                place++;
            }
            putIn(place, street);
        }

        /** One STREET more, if it leads no farther than a CODE can tell: whether it was gone. */
        boolean goNear(int street) {
            go(street);
            if (size <= CODE_SIZE) {
                return true;
            }
            go(street);
            return false;
        }

        private void takeOut(int place) {
            for (int i = place; i + 1 < size; i++) {
                streets[i] = streets[i + 1];
            }
            size--;
        }

        private void putIn(int place, int street) {
            if (size >= LONGEST) {
                return;
            }
            for (int i = size; i > place; i--) {
                streets[i] = streets[i - 1];
            }
            streets[place] = street;
            size++;
        }

        /** Whether, of those STREETS whose bits are in a mask, the one at a place can be the last. */
        boolean canBeLast(int place, int mask) {
            for (int i = place + 1; i < size; i++) {
                if ((mask >> i & 1) == 1 && !areNeighbours(streets[place], streets[i])) {
                    return false;
                }
            }
            return true;
        }

        int lastStreets() {
            int bits = 0;
            for (int place = 0; place < size; place++) {
                if (canBeLast(place, -1)) {
                    bits |= 1 << streets[place];
                }
            }
            return bits;
        }

        int code() {
            if (size > CODE_SIZE) {
                return SPENT;
            }
            int code = 0;
            for (int i = 0; i < size; i++) {
                code = code * 10 + streets[i] + 1;
            }
            return code;
        }
    }

    /** How many CROSSINGS and WORDS there are on the way to a CROSSING, by taking last STREETS off. */
    private static final class Ideals {
        // two CODES are 18 STREETS; no three can be last at once, so no layer has above 19
        private static final int LONGEST = 18, WIDEST = 40;

        private int[] masks = new int[WIDEST];
        private int[] nextMasks = new int[WIDEST];
        private long[] counts = new long[WIDEST];
        private long[] nextCounts = new long[WIDEST];
        private int nextSize = 0;
        long words = 0;
        int crossings = 0;

        void tally(Word word) {
            int length = Math.min(word.size, LONGEST);
            int size = 1;
            masks[0] = (1 << length) - 1;
            counts[0] = 1;
            crossings = 1;
            for (int step = 0; step < length; step++) {
                takeOff(word, size, length);
                swap();
                size = nextSize;
                crossings += size;
            }
            words = counts[0];
        }

        private void takeOff(Word word, int size, int length) {
            nextSize = 0;
            for (int k = 0; k < size; k++) {
                for (int place = 0; place < length; place++) {
                    if ((masks[k] >> place & 1) == 1 && word.canBeLast(place, masks[k])) {
                        add(masks[k] & ~(1 << place), counts[k]);
                    }
                }
            }
        }

        private void add(int mask, long times) {
            for (int k = 0; k < nextSize; k++) {
                if (nextMasks[k] == mask) {
                    nextCounts[k] += times;
                    return;
                }
            }
            if (nextSize < WIDEST) {
                nextMasks[nextSize] = mask;
                nextCounts[nextSize] = times;
                nextSize++;
            }
        }

        private void swap() {
            int[] oldMasks = masks;
            masks = nextMasks;
            nextMasks = oldMasks;
            long[] oldCounts = counts;
            counts = nextCounts;
            nextCounts = oldCounts;
        }
    }

    /** Three CROSSINGS and the first shortest ways between them. */
    private static final class Triangle {
        private final Word side = new Word();
        private final Word fromFirst = new Word();
        private final Word fromSecond = new Word();
        private final Word gap = new Word();

        int width(int a, int b, int c) {
            side.becomesWay(a, b);
            fromFirst.becomesWay(a, c);
            fromSecond.becomesWay(b, c);
            int widest = 0;
            for (int place = 0; place <= side.size; place++) {
                widest = Math.max(widest, Math.min(nearestFromFirst(place), nearestFromSecond(place)));
            }
            return widest;
        }

        private int nearestFromFirst(int place) {
            gap.clear();
            for (int i = place - 1; i >= 0; i--) {
                gap.go(side.streetAt(i));
            }
            return nearestAlong(fromFirst);
        }

        private int nearestFromSecond(int place) {
            gap.clear();
            for (int i = place; i < side.size; i++) {
                gap.go(side.streetAt(i));
            }
            return nearestAlong(fromSecond);
        }

        private int nearestAlong(Word way) {
            int nearest = gap.size;
            for (int i = 0; i < way.size; i++) {
                gap.go(way.streetAt(i));
                nearest = Math.min(nearest, gap.size);
            }
            return nearest;
        }
    }

    /** The shortest round from HOME by some CROSSINGS. */
    private static final class Tour {
        private static final int STOPS = ROUND_CODES + 1, ORDERS = 720;

        private final int[] gaps = new int[STOPS * STOPS];
        private final int[] order = new int[ROUND_CODES];
        final int[] best = new int[ROUND_CODES];
        private int size = 0;
        int shortest = 0;

        /** HOME is stop 0, place i of the ROW is stop i + 1. */
        void measure(int[] codes, int codeCount, Word word) {
            size = Math.max(0, Math.min(codeCount, Math.min(codes.length, ROUND_CODES)));
            for (int i = 0; i <= size; i++) {
                for (int j = 0; j <= size; j++) {
                    word.becomesWay(i == 0 ? 0 : codes[i - 1], j == 0 ? 0 : codes[j - 1]);
                    gaps[i * STOPS + j] = word.size;
                }
            }
        }

        void search() {
            for (int i = 0; i < size; i++) {
                order[i] = i;
            }
            shortest = FARTHER_THAN_ANY;
            for (int k = 0; k < ORDERS; k++) {
                int length = lengthOfOrder();
                if (length < shortest) {
                    shortest = length;
                    System.arraycopy(order, 0, best, 0, size);
                }
                if (!stepOrder()) {
                    return;
                }
            }
        }

        private int lengthOfOrder() {
            int length = 0;
            int stop = 0;
            for (int i = 0; i < size; i++) {
                length += gaps[stop * STOPS + order[i] + 1];
                stop = order[i] + 1;
            }
            return length + gaps[stop * STOPS];
        }

        /** The next order by numbers, so that of alike ones the first is met first; false: it was the last. */
        private boolean stepOrder() {
            int fall = size - 2;
            while (fall >= 0 && order[fall] > order[fall + 1]) {
                fall--;
            }
            if (fall < 0) {
                return false;
            }
            int greater = size - 1;
            while (greater > fall && order[greater] < order[fall]) {
                greater--;
            }
            exchange(fall, greater);
            for (int i = fall + 1, j = size - 1; i < j; i++, j--) {
                exchange(i, j);
            }
            return true;
        }

        private void exchange(int i, int j) {
            int kept = order[i];
            order[i] = order[j];
            order[j] = kept;
        }
    }

    /** The CROSSINGS no farther than 4 from HOME, by PLAIN CODES in order, and fires among them. */
    private static final class Quarter {
        private static final int CROSSINGS = 166, NUMBERS = 781, NO_CROSSING = -1;

        final int[] codes = new int[CROSSINGS];
        final int[] away = new int[CROSSINGS];
        private final int[] next = new int[CROSSINGS * STREETS];
        private final int[] byNumber = new int[NUMBERS];
        private final int[] shut = new int[CROSSINGS];
        private final int[] burning = new int[CROSSINGS];
        private final int[] guardAt = new int[GUARDS];
        private int burningSize = 0;
        int guards = 0;
        int size = 0;

        /** Once: shorter WORDS come first, and of each its STREETS by numbers, so PLAIN CODES come in order. */
        void survey(Word word) {
            if (size > 0) {
                return;
            }
            Arrays.fill(byNumber, NO_CROSSING);
            numberOf(0, 0);
            for (int c = 0; c < CROSSINGS && c < size; c++) {
                for (int street = 0; street < STREETS; street++) {
                    word.becomes(codes[c]);
                    word.go(street);
                    next[c * STREETS + street] =
                        word.size > FIRE_HOURS ? NO_CROSSING : numberOf(word.code(), word.size);
                }
            }
        }

        private int numberOf(int code, int far) {
            int number = numberOfCode(code);
            if (number < 0 || number >= NUMBERS) {
                return NO_CROSSING;
            }
            if (byNumber[number] == NO_CROSSING && size < CROSSINGS) {
                codes[size] = code;
                away[size] = far;
                byNumber[number] = size;
                size++;
            }
            return byNumber[number];
        }

        /** Figures 1 .. 5 as a number without gaps. */
        private static int numberOfCode(int code) {
            int number = 0;
            int unit = 1;
            for (int rest = code; rest > 0; rest /= 10) {
                number += rest % 10 * unit;
                unit *= STREETS;
            }
            return number;
        }

        void addGuard(int plainCode) {
            if (guards >= GUARDS) {
                return;
            }
            int number = numberOfCode(plainCode);
            guardAt[guards] = number >= 0 && number < NUMBERS ? byNumber[number] : NO_CROSSING;
            guards++;
        }

        /** How many burn behind some HOURS, one guard's place being left (NONE: none). */
        int burn(int left, int hours) {
            Arrays.fill(shut, 0);
            for (int g = 0; g < guards; g++) {
                if (g != left && guardAt[g] != NO_CROSSING) {
                    shut[guardAt[g]] = 1;
                }
            }
            burningSize = 0;
            catchFire(0);
            int from = 0;
            for (int hour = 0; hour < hours; hour++) {
                int until = burningSize;
                for (int b = from; b < until; b++) {
                    spread(burning[b]);
                }
                from = until;
            }
            return burningSize;
        }

        private void spread(int crossing) {
            for (int street = 0; street < STREETS; street++) {
                int to = next[crossing * STREETS + street];
                if (to != NO_CROSSING && shut[to] == 0) {
                    catchFire(to);
                }
            }
        }

        private void catchFire(int crossing) {
            if (burningSize < CROSSINGS) {
                burning[burningSize] = crossing;
                burningSize++;
                // it burns: it can't catch fire again
                shut[crossing] = 1;
            }
        }

        boolean edgeBurns() {
            for (int b = 0; b < burningSize; b++) {
                if (away[burning[b]] == FIRE_HOURS) {
                    return true;
                }
            }
            return false;
        }
    }

    /** One WALKER, as it is taken out of a TOWN for a while. */
    private static final class Walker {
        int kind = WALKER;
        int place = 0;
        int heading = 0;
        int turned = 0;
        int went = 0;

        boolean is(int wanted) {
            return isOf(kind, wanted);
        }

        static boolean isOf(int kind, int wanted) {
            return kind == wanted || wanted == WALKER
                || kind == RUNNER && wanted == STRAIGHT || kind == LOST && wanted == CIRCLER;
        }

        void passHour(Word word) {
            passStreet(word);
            if (kind == RUNNER) {
                passStreet(word);
            }
        }

        void passStreet(Word word) {
            word.clear();
            word.goAlong(place);
            if (kind == HOMER) {
                goHome(word);
                return;
            }
            if (word.goNear(heading)) {
                went++;
            }
            place = word.code();
            turn();
        }

        private void goHome(Word word) {
            int nearer = word.lastStreets();
            for (int street = 0; street < STREETS; street++) {
                if ((nearer >> street & 1) == 1) {
                    word.go(street);
                    place = word.code();
                    went++;
                    return;
                }
            }
        }

        void turn() {
            if (is(STRAIGHT)) {
                turnByTurns(2);
            } else if (kind == CIRCLER) {
                turnByTurns(1);
            } else if (kind == LOST) {
                heading = (heading + 1) % STREETS;
            }
        }

        private void turnByTurns(int more) {
            int by = turned == 0 ? more : STREETS - more;
            heading = (heading + by) % STREETS;
            turned = 1 - turned;
        }
    }

    /** WALKERS and all their HOURS: what was ahead of each HOUR stays in that HOUR's part of the row. */
    private static final class Town {
        private static final int FACTS = 4, PART = WALKERS * FACTS;

        private final int[] kinds = new int[WALKERS];
        private final int[] facts = new int[(LAST_HOUR + 1) * PART];
        int size = 0;
        int hour = 0;

        void settle(Reader reader, Word word) {
            size = Math.max(0, Math.min(reader.size, WALKERS));
            hour = 0;
            for (int i = 0; i < size; i++) {
                kinds[i] = reader.kinds[i];
                word.becomes(reader.codes[i]);
                facts[i * FACTS] = word.code();
                facts[i * FACTS + 1] = reader.headings[i];
                facts[i * FACTS + 2] = 0;
                facts[i * FACTS + 3] = 0;
            }
        }

        void becomes(Town town) {
            size = town.size;
            hour = town.hour;
            System.arraycopy(town.kinds, 0, kinds, 0, WALKERS);
            System.arraycopy(town.facts, 0, facts, 0, (LAST_HOUR + 1) * PART);
        }

        void load(int i, Walker walker) {
            if (i < 0 || i >= size) {
                return;
            }
            int from = hour * PART + i * FACTS;
            walker.kind = kinds[i];
            walker.place = facts[from];
            walker.heading = facts[from + 1];
            walker.turned = facts[from + 2];
            walker.went = facts[from + 3];
        }

        void store(int i, Walker walker) {
            if (i < 0 || i >= size) {
                return;
            }
            int to = hour * PART + i * FACTS;
            facts[to] = walker.place;
            facts[to + 1] = walker.heading;
            facts[to + 2] = walker.turned;
            facts[to + 3] = walker.went;
        }

        void passHour(Walker walker, Word word) {
            if (hour >= LAST_HOUR) {
                return;
            }
            System.arraycopy(facts, hour * PART, facts, (hour + 1) * PART, PART);
            hour++;
            for (int i = 0; i < size; i++) {
                load(i, walker);
                walker.passHour(word);
                store(i, walker);
            }
        }

        private int placeOf(int i) {
            return facts[hour * PART + i * FACTS];
        }

        int othersAt(int i) {
            int others = 0;
            for (int j = 0; j < size; j++) {
                if (j != i && placeOf(j) == placeOf(i)) {
                    others++;
                }
            }
            return others;
        }

        int howManyAtHome() {
            int there = 0;
            for (int i = 0; i < size; i++) {
                if (placeOf(i) == 0) {
                    there++;
                }
            }
            return there;
        }

        int howManyAre(int kind) {
            int there = 0;
            for (int i = 0; i < size; i++) {
                if (Walker.isOf(kinds[i], kind)) {
                    there++;
                }
            }
            return there;
        }
    }

    /** Reads the small language of TOWNS. */
    private static final class Reader {
        private static final int OUTSIDE = -1;

        final int[] kinds = new int[WALKERS];
        final int[] headings = new int[WALKERS];
        final int[] codes = new int[WALKERS];
        int size = 0;
        // how many figures the item that is being read has so far
        private int figures = OUTSIDE;

        /** The FAULT of a TEXT; NONE: its WALKERS are in the rows. */
        int read(byte[] text, int length) {
            size = 0;
            figures = OUTSIDE;
            for (int i = 0; i < length && i < text.length; i++) {
                if (!take(text[i])) {
                    return i;
                }
            }
            return figures == 0 ? length : NONE;
        }

        private boolean take(int sign) {
            if (sign == WHITE) {
                return takeBlank();
            }
            return isStreet(sign - FIGURE_0) ? takeFigure(sign - FIGURE_0) : takeLetter(sign);
        }

        private boolean takeBlank() {
            if (figures == 0) {
                return false;
            }
            figures = OUTSIDE;
            return true;
        }

        private boolean takeFigure(int street) {
            if (figures == OUTSIDE || figures > WORD_IN_TEXT || size < 1) {
                return false;
            }
            if (figures == 0) {
                headings[size - 1] = street;
            } else {
                codes[size - 1] = codes[size - 1] * 10 + street + 1;
            }
            figures++;
            return true;
        }

        private boolean takeLetter(int sign) {
            int kind = kindOf(sign);
            if (kind == NONE || figures == 0 || size >= WALKERS) {
                return false;
            }
            kinds[size] = kind;
            headings[size] = 0;
            codes[size] = 0;
            size++;
            figures = 0;
            return true;
        }

        private static int kindOf(int letter) {
            switch (letter) {
                case 'w':
                    return WALKER;
                case 's':
                    return STRAIGHT;
                case 'c':
                    return CIRCLER;
                case 'h':
                    return HOMER;
                case 'r':
                    return RUNNER;
                case 'o':
                    return LOST;
                default:
                    return NONE;
            }
        }
    }
}
