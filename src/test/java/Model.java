import java.math.BigInteger;
import java.util.ArrayList;
import java.util.Arrays;
import java.util.HashSet;
import java.util.List;
import java.util.Map;
import java.util.Set;
import java.util.regex.Pattern;

/** The document told once more, slowly and by other ways, for runs by chance to be compared with. */
public final class Model {
    private static final int BAD = -1, FULL = -2, STATE = -4, SPENT = -6, NONE = -9;
    private static final Pattern WHOLE = Pattern.compile(" *([wschro][0-4]{1,5} *){0,5}");
    private static final Pattern OPEN = Pattern.compile(" *([wschro][0-4]{1,5} *){0,4}[wschro]");

    private static final class Figure {
        int kind;
        String at;
        int first;
        int heading;
        int went;

        Figure twin() {
            Figure twin = new Figure();
            twin.kind = kind;
            twin.at = at;
            twin.first = first;
            twin.heading = heading;
            twin.went = went;
            return twin;
        }

        void street() {
            if (kind == 3) {
                for (char c = '1'; c <= '5'; c++) {
                    String to = Crossings.plain(at + c);
                    if (to.length() < at.length()) {
                        at = to;
                        went++;
                        return;
                    }
                }
                return;
            }
            String to = Crossings.plain(at + (char) ('1' + heading));
            if (to.length() <= 9) {
                at = to;
                went++;
            }
            int by = kind == 1 || kind == 4 ? 2 : 1;
            if (kind == 5) {
                heading = (heading + 1) % 5;
            } else if (kind != 0) {
                heading = heading == first ? (first + by) % 5 : first;
            }
        }

        void hour() {
            street();
            if (kind == 4) {
                street();
            }
        }
    }

    private static final class Days {
        List<Figure> figures = new ArrayList<>();
        List<List<Figure>> ahead = new ArrayList<>();

        Days twin() {
            Days twin = new Days();
            twin.figures = twins(figures);
            for (List<Figure> hour : ahead) {
                twin.ahead.add(twins(hour));
            }
            return twin;
        }
    }

    private final int[][] rows = new int[6][];
    private final byte[][] texts = new byte[4][];
    private Days days = new Days();
    private final Days[] kept = new Days[3];
    private final int[] times = new int[6];
    private int finding = 0;
    private int asked = 0;
    private long upper = 0;
    private long lower = 1;

    private static List<Figure> twins(List<Figure> figures) {
        List<Figure> twins = new ArrayList<>();
        for (Figure figure : figures) {
            twins.add(figure.twin());
        }
        return twins;
    }

    private int found(int f) {
        finding = f;
        times[f]++;
        return -3;
    }

    private int tell(long a, long b) {
        long divisor = BigInteger.valueOf(a).gcd(BigInteger.valueOf(b)).longValue();
        upper = a / divisor;
        lower = b / divisor;
        return 1;
    }

    private int ask(int v) {
        asked = v;
        return 1;
    }

    private static boolean in(int v, int from, int to) {
        return v >= from && v <= to;
    }

    private static boolean codes(int... codes) {
        for (int code : codes) {
            if (code != 0 && !Integer.toString(code).matches("[1-5]{1,9}")) {
                return false;
            }
        }
        return true;
    }

    private static String word(int code) {
        return code == 0 ? "" : Integer.toString(code);
    }

    private static int code(String word) {
        return word.isEmpty() ? 0 : Integer.parseInt(word);
    }

    private static int plainCode(String word) {
        String plain = Crossings.plain(word);
        return plain.length() > 9 ? SPENT : code(plain);
    }

    public int row(int r, int n) {
        if (!in(r, 0, 5) || n > 40) return BAD;
        if (n < 0) return found(5);
        rows[r] = new int[n];
        return n;
    }

    public int lay(int r, int i, int v) {
        int answer = at(r, i);
        if (answer == 1) rows[r][i] = v;
        return answer;
    }

    public int at(int r, int i) {
        if (!in(r, 0, 5)) return BAD;
        if (rows[r] == null) return found(1);
        if (!in(i, 0, rows[r].length - 1)) return found(2);
        return ask(rows[r][i]);
    }

    public int tear(int r) {
        if (!in(r, 0, 5)) return BAD;
        if (rows[r] == null) return found(1);
        rows[r] = null;
        return 1;
    }

    public int copy(int r, int i, int to, int j, int n) {
        if (!in(r, 0, 5) || !in(to, 0, 5)) return BAD;
        if (n < 0) return found(5);
        if (rows[r] == null || rows[to] == null) return found(1);
        if (i < 0 || j < 0 || (long) i + n > rows[r].length || (long) j + n > rows[to].length) return found(2);
        int[] taken = Arrays.copyOfRange(rows[r], i, i + n);
        for (int k = 0; k < n; k++) rows[to][j + k] = taken[k];
        return 1;
    }

    public int mean(int r) {
        if (!in(r, 0, 5)) return BAD;
        if (rows[r] == null) return found(1);
        if (rows[r].length == 0) return found(4);
        BigInteger sum = BigInteger.ZERO;
        for (int v : rows[r]) sum = sum.add(BigInteger.valueOf(v));
        return ask(sum.divide(BigInteger.valueOf(rows[r].length)).intValueExact());
    }

    public int text(int t, int n) {
        if (!in(t, 0, 3) || n > 80) return BAD;
        if (n < 0) return found(5);
        texts[t] = new byte[n];
        Arrays.fill(texts[t], (byte) 32);
        return n;
    }

    public int put(int t, int i, int v) {
        if (!in(t, 0, 3)) return BAD;
        if (texts[t] == null) return found(1);
        if (!in(i, 0, texts[t].length - 1)) return found(2);
        int was = texts[t][i];
        texts[t][i] = (byte) v;
        return was + 1000;
    }

    private String signs(int t) {
        StringBuilder signs = new StringBuilder();
        for (byte b : texts[t]) signs.append((char) (b & 255));
        return signs.toString();
    }

    public int fault(int t) {
        if (!in(t, 0, 3)) return BAD;
        if (texts[t] == null) return found(1);
        String signs = signs(t);
        for (int i = 0; i < signs.length(); i++) {
            String begun = signs.substring(0, i + 1);
            if (!WHOLE.matcher(begun).matches() && !OPEN.matcher(begun).matches()) return i;
        }
        return WHOLE.matcher(signs).matches() ? NONE : signs.length();
    }

    public int town(int t) {
        int fault = fault(t);
        if (!in(t, 0, 3) || texts[t] == null) return fault;
        if (fault != NONE) return STATE;
        days = new Days();
        Arrays.fill(kept, null);
        for (String item : signs(t).replaceAll("(?=[a-z])", " ").trim().split(" +")) {
            if (item.isEmpty()) continue;
            Figure figure = new Figure();
            figure.kind = "wschro".indexOf(item.charAt(0));
            figure.heading = item.charAt(1) - '0';
            figure.first = figure.heading;
            StringBuilder at = new StringBuilder();
            for (char c : item.substring(2).toCharArray()) at.append((char) (c + 1));
            figure.at = Crossings.plain(at.toString());
            days.figures.add(figure);
        }
        return days.figures.size();
    }

    private Figure figure(int i) {
        return days.figures.get(i);
    }

    private boolean walkers(int... is) {
        for (int i : is) if (!in(i, 0, days.figures.size() - 1)) return false;
        return true;
    }

    private int fact(int i, int what) {
        Figure f = figure(i);
        return new int[] {f.kind, code(f.at), f.heading, f.went, f.at.length()}[what];
    }

    public int walker(int i, int what) {
        if (!walkers(i) || !in(what, 0, 4)) return BAD;
        return ask(fact(i, what));
    }

    public int mark(int i, int kind) {
        if (!walkers(i) || !in(kind, 1, 5)) return BAD;
        Figure f = figure(i);
        if (f.kind != kind && !(f.kind == 4 && kind == 1) && !(f.kind == 5 && kind == 2)) return found(3);
        Figure twin = f.twin();
        if (kind == 1) {
            twin.street();
            return twin.heading;
        }
        if (kind == 2) {
            for (int k = 0; k < 4; k++) twin.street();
            return Crossings.gap(f.at, twin.at);
        }
        if (kind == 3) {
            int ways = 0;
            for (String next : Crossings.nextTo(f.at)) if (next.length() < f.at.length()) ways++;
            return ways;
        }
        if (kind == 4) {
            twin.hour();
            return twin.at.length();
        }
        int others = -1;
        for (Figure other : days.figures) if (other.at.equals(f.at)) others++;
        return others;
    }

    public int stand(int i, int code) {
        if (!walkers(i) || !codes(code)) return BAD;
        int was = code(figure(i).at);
        figure(i).at = Crossings.plain(word(code));
        return was;
    }

    public int head(int i, int street) {
        if (!walkers(i) || !in(street, 0, 4)) return BAD;
        int was = figure(i).heading;
        figure(i).heading = street;
        figure(i).first = street;
        return was;
    }

    public int hours(int n) {
        if (!in(n, 0, 20)) return BAD;
        if (days.figures.isEmpty()) return STATE;
        if (days.ahead.size() + n > 60) return FULL;
        for (int k = 0; k < n; k++) {
            days.ahead.add(twins(days.figures));
            for (Figure f : days.figures) f.hour();
        }
        return days.ahead.size();
    }

    public int undo(int n) {
        int hour = days.ahead.size();
        if (!in(n, 0, hour)) return BAD;
        if (n < hour) {
            days.figures = days.ahead.get(n);
            days.ahead = new ArrayList<>(days.ahead.subList(0, n));
        }
        return hour - n;
    }

    public int keep(int k) {
        if (!in(k, 0, 2)) return BAD;
        if (days.figures.isEmpty()) return STATE;
        kept[k] = days.twin();
        return days.ahead.size();
    }

    public int on(int k) {
        if (!in(k, 0, 2)) return BAD;
        if (kept[k] == null) return found(1);
        days = kept[k].twin();
        return days.ahead.size();
    }

    public int plain(int a) {
        return codes(a) ? plainCode(word(a)) : BAD;
    }

    public int join(int a, int b) {
        return codes(a, b) ? plainCode(word(a) + word(b)) : BAD;
    }

    public int back(int a) {
        return codes(a) ? plainCode(Crossings.reverse(word(a))) : BAD;
    }

    public int far(int a, int b) {
        return codes(a, b) ? Crossings.gap(word(a), word(b)) : BAD;
    }

    private static int lastStreets(String word) {
        int bits = 0;
        for (char c = '1'; c <= '5'; c++) {
            if (Crossings.plain(word + c).length() < Crossings.plain(word).length()) bits |= 1 << c - '1';
        }
        return bits;
    }

    public int ends(int a) {
        return codes(a) ? lastStreets(word(a)) : BAD;
    }

    public int begins(int a) {
        return codes(a) ? lastStreets(Crossings.reverse(word(a))) : BAD;
    }

    public int ways(int a, int b) {
        if (!codes(a, b)) return BAD;
        return tell(Crossings.onShortestWays(word(a), word(b)).get(Crossings.plain(word(b))), 1);
    }

    public int between(int a, int b) {
        return codes(a, b) ? Crossings.onShortestWays(word(a), word(b)).size() : BAD;
    }

    public int lies(int a, int b, int on) {
        if (!codes(a, b, on)) return BAD;
        Map<String, Long> there = Crossings.onShortestWays(word(a), word(b));
        return there.containsKey(Crossings.plain(word(on))) ? 1 : 0;
    }

    public int path(int a, int b, int r) {
        if (!codes(a, b) || !in(r, 0, 5)) return BAD;
        String way = Crossings.way(word(a), word(b));
        rows[r] = new int[way.length()];
        for (int i = 0; i < way.length(); i++) rows[r][i] = way.charAt(i) - '1';
        return way.length();
    }

    public int thin(int a, int b, int c) {
        if (!codes(a, b, c)) return BAD;
        List<String> others = Crossings.onWay(word(a), word(c));
        others.addAll(Crossings.onWay(word(b), word(c)));
        int most = 0;
        for (String p : Crossings.onWay(word(a), word(b))) {
            int least = 99;
            for (String q : others) least = Math.min(least, Crossings.gap(p, q));
            most = Math.max(most, least);
        }
        return most;
    }

    /** Crossings by rings, told by how many last streets they have (one, two). */
    private static long ringOf(int n) {
        if (n == 0) return 1;
        long one = 5;
        long two = 0;
        for (int k = 1; k < n; k++) {
            long next = 2 * one + two;
            two = one + two;
            one = next;
        }
        return one + two;
    }

    private static long discOf(int n) {
        return n < 0 ? 0 : ringOf(n) + discOf(n - 1);
    }

    public int ring(int n) {
        return in(n, 0, 30) ? tell(ringOf(n), 1) : BAD;
    }

    public int within(int n) {
        return in(n, 0, 30) ? tell(discOf(n), 1) : BAD;
    }

    public int edge(int n) {
        return in(n, 0, 30) ? tell(ringOf(n), discOf(n)) : BAD;
    }

    /** Words that are plain once the streets that a door shuts are smaller than all: by a machine of states. */
    private static long beyondDoor(int shut, int n) {
        // a crossing beyond is told by its plain word: which streets may not come next is all that counts
        long[] at = new long[32];
        at[shut] = 1;
        for (int k = 0; k < n; k++) {
            long[] next = new long[32];
            for (int forbidden = 0; forbidden < 32; forbidden++) {
                for (int s = 0; s < 5; s++) {
                    if ((forbidden >> s & 1) == 1) continue;
                    int left = (s + 4) % 5;
                    int right = (s + 1) % 5;
                    int after = 1 << s;
                    for (int t : new int[] {left, right}) {
                        if (t < s || (forbidden >> t & 1) == 1) after |= 1 << t;
                    }
                    next[after] += at[forbidden];
                }
            }
            at = next;
        }
        long sum = 0;
        for (long v : at) sum += v;
        return sum;
    }

    public int beyond(int a, int n) {
        if (!codes(a) || !in(n, 0, 20)) return BAD;
        return tell(beyondDoor(lastStreets(word(a)), n), 1);
    }

    public int houses(int n) {
        if (!in(n, 0, 20)) return BAD;
        long sum = 0;
        for (int k = 0; k <= n; k++) {
            for (int s = 0; s < 5; s++) sum += beyondDoor(1 << s | 1 << (s + 1) % 5, k);
        }
        return tell(sum, 1);
    }

    private int streets(int r) {
        if (!in(r, 0, 5)) return BAD;
        if (rows[r] == null) return found(1);
        for (int v : rows[r]) if (!in(v, 0, 4)) return found(3);
        return 0;
    }

    private List<String> stops(int r) {
        List<String> stops = new ArrayList<>();
        String here = "";
        stops.add(here);
        for (int v : rows[r]) {
            here = Crossings.plain(here + (char) ('1' + v));
            stops.add(here);
        }
        return stops;
    }

    public int walk(int r) {
        int refusal = streets(r);
        if (refusal != 0) return refusal;
        String end = stops(r).get(rows[r].length);
        if (end.length() > 9) return SPENT;
        asked = rows[r].length - end.length();
        return code(end);
    }

    public int reaches(int r) {
        int refusal = streets(r);
        if (refusal != 0) return refusal;
        List<String> stops = stops(r);
        int farthest = 0;
        for (String stop : stops) farthest = Math.max(farthest, stop.length());
        asked = 0;
        while (stops.get(asked).length() < farthest) asked++;
        return farthest;
    }

    public int sees(int r) {
        int refusal = streets(r);
        return refusal != 0 ? refusal : new HashSet<>(stops(r)).size();
    }

    private int codeRow(int r, int most) {
        if (!in(r, 0, 5)) return BAD;
        if (rows[r] == null) return found(1);
        if (rows[r].length > most) return found(5);
        return codes(rows[r]) ? 0 : found(3);
    }

    private int bestRound;
    private List<Integer> bestOrder;

    private void rounds(List<Integer> order, String here, int gone, int[] goals) {
        if (order.size() == goals.length) {
            int all = gone + here.length();
            if (all < bestRound) {
                bestRound = all;
                bestOrder = new ArrayList<>(order);
            }
            return;
        }
        for (int i = 0; i < goals.length; i++) {
            if (order.contains(i)) continue;
            order.add(i);
            String there = Crossings.plain(word(goals[i]));
            rounds(order, there, gone + Crossings.gap(here, there), goals);
            order.remove(order.size() - 1);
        }
    }

    public int round(int r, int to) {
        if (!in(to, 0, 5)) return BAD;
        int refusal = codeRow(r, 6);
        if (refusal != 0) return refusal;
        bestRound = 9999;
        rounds(new ArrayList<>(), "", 0, rows[r]);
        rows[to] = new int[bestOrder.size()];
        for (int i = 0; i < rows[to].length; i++) rows[to][i] = bestOrder.get(i);
        return bestRound;
    }

    public int post(int r) {
        int refusal = codeRow(r, 20);
        if (refusal != 0) return refusal;
        int best = -1;
        int least = 9999;
        for (int code = 0; code <= 555; code++) {
            if (!codes(code) || plainCode(word(code)) != code) continue;
            int sum = 0;
            for (int v : rows[r]) sum += Crossings.gap(word(code), word(v));
            if (sum < least) {
                least = sum;
                best = code;
            }
        }
        asked = least;
        return best;
    }

    private Set<String> fire(int r, int leave, int n) {
        Set<String> guards = new HashSet<>();
        for (int i = 0; i < rows[r].length; i++) if (i != leave) guards.add(Crossings.plain(word(rows[r][i])));
        Set<String> burning = new HashSet<>();
        burning.add("");
        for (int k = 0; k < n; k++) {
            for (String a : new ArrayList<>(burning)) {
                for (String b : Crossings.nextTo(a)) if (!guards.contains(b)) burning.add(b);
            }
        }
        return burning;
    }

    public int burns(int r, int n) {
        if (!in(n, 0, 4)) return BAD;
        int refusal = codeRow(r, 20);
        return refusal != 0 ? refusal : fire(r, -1, n).size();
    }

    public int held(int r) {
        int refusal = codeRow(r, 20);
        if (refusal != 0) return refusal;
        Set<String> burning = fire(r, -1, 4);
        asked = burning.size();
        for (String a : burning) if (a.length() == 4) return 0;
        return 1;
    }

    public int idle(int r) {
        int refusal = codeRow(r, 20);
        if (refusal != 0) return refusal;
        int all = fire(r, -1, 4).size();
        for (int i = 0; i < rows[r].length; i++) if (fire(r, i, 4).size() == all) return i;
        return NONE;
    }

    public int meet(int i, int j) {
        if (!walkers(i, j) || i == j) return BAD;
        Figure one = figure(i).twin();
        Figure two = figure(j).twin();
        for (int n = 0; n <= 40; n++) {
            if (one.at.equals(two.at)) {
                asked = code(one.at);
                return n;
            }
            one.hour();
            two.hour();
        }
        return NONE;
    }

    public int part(int i, int j, int n) {
        if (!walkers(i, j) || i == j || !in(n, 0, 40)) return BAD;
        Figure one = figure(i).twin();
        Figure two = figure(j).twin();
        for (int k = 0; k < n; k++) {
            one.hour();
            two.hour();
        }
        return Crossings.gap(one.at, two.at);
    }

    public int drunk(int n, int seed) {
        if (!in(n, 1, 60) || !in(seed, 1, 2147483646)) return BAD;
        BigInteger lot = BigInteger.valueOf(seed);
        String here = "";
        asked = 0;
        for (int k = 0; k < n; k++) {
            lot = lot.multiply(BigInteger.valueOf(48271)).mod(BigInteger.valueOf(2147483647));
            String next = Crossings.plain(here + (char) ('1' + lot.intValue() % 5));
            if (next.length() <= 9) {
                here = next;
                if (here.isEmpty()) asked++;
            }
        }
        return code(here);
    }

    public int asked() {
        return asked;
    }

    public long upper() {
        return upper;
    }

    public long lower() {
        return lower;
    }

    public int count(int what) {
        int sum = 0;
        switch (what) {
            case 0: return days.figures.size();
            case 1: return days.ahead.size();
            case 2: for (Figure f : days.figures) if (f.kind == 1 || f.kind == 4) sum++; return sum;
            case 3: for (Figure f : days.figures) if (f.kind == 2 || f.kind == 5) sum++; return sum;
            case 4: for (Figure f : days.figures) if (f.at.isEmpty()) sum++; return sum;
            case 5: for (Days d : kept) if (d != null) sum++; return sum;
            case 6: for (int[] row : rows) if (row != null) sum++; return sum;
            case 7: for (byte[] text : texts) if (text != null) sum++; return sum;
            default: return BAD;
        }
    }

    public int finding() {
        return finding;
    }

    public int findings(int f) {
        return in(f, 1, 5) ? times[f] : BAD;
    }

    public long digest() {
        List<Integer> told = new ArrayList<>();
        for (int what = 0; what < 8; what++) told.add(count(what));
        for (int i = 0; i < days.figures.size(); i++) for (int what = 0; what < 5; what++) told.add(fact(i, what));
        for (Days d : kept) told.add(d == null ? -1 : d.ahead.size());
        for (int[] row : rows) {
            told.add(row == null ? -1 : row.length);
            if (row != null) for (int v : row) told.add(v);
        }
        for (byte[] text : texts) {
            told.add(text == null ? -1 : text.length);
            if (text != null) for (byte v : text) told.add((int) v);
        }
        long h = 17;
        for (int v : told) h = 31 * h + v;
        return h;
    }
}
