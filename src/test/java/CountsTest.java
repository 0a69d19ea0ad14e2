import java.util.HashSet;
import java.util.List;
import java.util.Set;

/** Promises 31 to 35, 48, 49: how many. Small ones are counted one by one, great ones by their own rule. */
public final class CountsTest {
    private static final Due DUE = new Due();
    private static final int COUNTED = 9;

    public static void main(String[] args) {
        List<Set<String>> rings = Crossings.rings(COUNTED);
        rings(rings);
        great();
        beyond(rings);
        houses(rings);
        wrong();
        DUE.end();
    }

    private static int code(String word) {
        return word.isEmpty() ? 0 : Integer.parseInt(word);
    }

    private static void told(WideTown x, String call, int answer, long upper, long lower) {
        DUE.is(call, answer, 1);
        DUE.is(call + ": upper()", x.upper(), upper);
        DUE.is(call + ": lower()", x.lower(), lower);
    }

    private static long divisor(long a, long b) {
        return b == 0 ? a : divisor(b, a % b);
    }

    private static void rings(List<Set<String>> rings) {
        WideTown x = new WideTown();
        long disc = 0;
        for (int n = 0; n <= COUNTED; n++) {
            long ring = rings.get(n).size();
            disc += ring;
            told(x, "ring(" + n + ")", x.ring(n), ring, 1);
            told(x, "within(" + n + ")", x.within(n), disc, 1);
            long divisor = divisor(ring, disc);
            told(x, "edge(" + n + ")", x.edge(n), ring / divisor, disc / divisor);
        }
    }

    private static void great() {
        WideTown x = new WideTown();
        // how many have one last street, how many two
        long one = 5;
        long two = 0;
        long disc = 6;
        for (int n = 2; n <= 30; n++) {
            long next = 2 * one + two;
            two = one + two;
            one = next;
            disc += one + two;
            told(x, "ring(" + n + ")", x.ring(n), one + two, 1);
            told(x, "within(" + n + ")", x.within(n), disc, 1);
            long divisor = divisor(one + two, disc);
            told(x, "edge(" + n + ")", x.edge(n), (one + two) / divisor, disc / divisor);
        }
    }

    private static void beyond(List<Set<String>> rings) {
        for (int k = 0; k <= 4; k++) {
            for (String a : rings.get(k)) {
                WideTown x = new WideTown();
                long last = 0;
                long before = 0;
                for (int n = 0; n <= 20; n++) {
                    long want = n <= 4 ? beyondCounted(rings, a, n) : 3 * last - before;
                    told(x, "beyond(" + a + ", " + n + ")", x.beyond(code(a), n), want, 1);
                    before = last;
                    last = want;
                }
            }
        }
    }

    private static long beyondCounted(List<Set<String>> rings, String a, int n) {
        long there = 0;
        for (String b : rings.get(a.length() + n)) {
            if (Crossings.gap(a, b) == n) {
                there++;
            }
        }
        return there;
    }

    private static void houses(List<Set<String>> rings) {
        WideTown x = new WideTown();
        Set<String> houses = new HashSet<>();
        long last = 0;
        long before = 0;
        long step = 0;
        for (int n = 0; n <= 20; n++) {
            long want;
            if (n <= 6) {
                for (String a : rings.get(n)) {
                    for (int s = 0; s < 5; s++) {
                        houses.add(nearestCorner(a, s) + " " + s);
                    }
                }
                want = houses.size();
            } else {
                step = 3 * last - before;
                want = x.upper() + step;
            }
            if (n <= 6) {
                step = want - (n == 0 ? 0 : x.upper());
            }
            told(x, "houses(" + n + ")", x.houses(n), want, 1);
            before = last;
            last = step;
        }
    }

    private static String nearestCorner(String a, int s) {
        String nearest = a;
        String around = a;
        for (int k = 0; k < 4; k++) {
            around = Crossings.plain(around + (char) ('1' + (k % 2 == 0 ? s : (s + 1) % 5)));
            if (around.length() < nearest.length()) {
                nearest = around;
            }
        }
        return nearest;
    }

    private static void wrong() {
        WideTown x = new WideTown();
        DUE.is("ring(-1)", x.ring(-1), WideTown.BAD);
        DUE.is("ring(31)", x.ring(31), WideTown.BAD);
        DUE.is("within(-1)", x.within(-1), WideTown.BAD);
        DUE.is("within(31)", x.within(31), WideTown.BAD);
        DUE.is("edge(-1)", x.edge(-1), WideTown.BAD);
        DUE.is("edge(31)", x.edge(31), WideTown.BAD);
        DUE.is("beyond(0, -1)", x.beyond(0, -1), WideTown.BAD);
        DUE.is("beyond(0, 21)", x.beyond(0, 21), WideTown.BAD);
        DUE.is("beyond(6, 1)", x.beyond(6, 1), WideTown.BAD);
        DUE.is("beyond(-1, 1)", x.beyond(-1, 1), WideTown.BAD);
        DUE.is("houses(-1)", x.houses(-1), WideTown.BAD);
        DUE.is("houses(21)", x.houses(21), WideTown.BAD);
        DUE.is("upper() behind what was refused", x.upper(), 0);
        DUE.is("lower() behind what was refused", x.lower(), 1);
        x.edge(1);
        x.ring(31);
        DUE.is("upper() of edge(1)", x.upper(), 5);
        DUE.is("lower() of edge(1)", x.lower(), 6);
        x.ring(1);
        DUE.is("lower() of ring(1)", x.lower(), 1);
    }
}
