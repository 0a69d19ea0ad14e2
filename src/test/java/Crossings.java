import java.util.ArrayDeque;
import java.util.ArrayList;
import java.util.HashMap;
import java.util.LinkedHashSet;
import java.util.List;
import java.util.Map;
import java.util.Set;
import java.util.TreeMap;

/**
 * Crossings told by another way than the program's: a street is a mirror, a 5 by 5 matrix of whole numbers,
 * and a street leads nearer just if its column has no number above 0. Words are texts of figures 1 .. 5.
 */
final class Crossings {
    private static final Map<String, String> PLAIN = new HashMap<>();

    private Crossings() {
    }

    private static boolean neighbours(int s, int t) {
        return Math.floorMod(s - t, 5) == 1 || Math.floorMod(t - s, 5) == 1;
    }

    /** The matrix times the mirror of a street, by columns. */
    private static void mirror(long[][] columns, int s) {
        for (int t = 0; t < 5; t++) {
            if (t != s && !neighbours(s, t)) {
                for (int i = 0; i < 5; i++) {
                    columns[t][i] = Math.addExact(columns[t][i], Math.multiplyExact(2L, columns[s][i]));
                }
            }
        }
        for (int i = 0; i < 5; i++) {
            columns[s][i] = -columns[s][i];
        }
    }

    private static boolean nearer(long[] column) {
        for (long number : column) {
            if (number > 0) {
                return false;
            }
        }
        return true;
    }

    /** The first of the shortest words of a crossing. */
    static String plain(String word) {
        String known = PLAIN.get(word);
        if (known != null) {
            return known;
        }
        long[][] columns = new long[5][5];
        for (int i = 0; i < 5; i++) {
            columns[i][i] = 1;
        }
        for (int i = word.length() - 1; i >= 0; i--) {
            mirror(columns, word.charAt(i) - '1');
        }
        StringBuilder plain = new StringBuilder();
        for (int s = 0; s < 5; s++) {
            if (nearer(columns[s])) {
                mirror(columns, s);
                plain.append((char) ('1' + s));
                s = -1;
            }
        }
        if (PLAIN.size() < 400000) {
            PLAIN.put(word, plain.toString());
        }
        return plain.toString();
    }

    /** The PLAIN CODE of a word's crossing; SPENT, if it has none. */
    static int code(String word) {
        String plain = plain(word);
        return plain.isEmpty() ? 0 : plain.length() > 9 ? WideTown.SPENT : Integer.parseInt(plain);
    }

    static String reverse(String word) {
        return new StringBuilder(word).reverse().toString();
    }

    static int gap(String a, String b) {
        return plain(reverse(a) + b).length();
    }

    static List<String> nextTo(String a) {
        List<String> next = new ArrayList<>();
        for (char c = '1'; c <= '5'; c++) {
            next.add(plain(a + c));
        }
        return next;
    }

    /** All crossings no farther than n, by rings. */
    static List<Set<String>> rings(int n) {
        List<Set<String>> rings = new ArrayList<>();
        rings.add(Set.of(""));
        for (int k = 1; k <= n; k++) {
            Set<String> ring = new LinkedHashSet<>();
            for (String a : rings.get(k - 1)) {
                for (String b : nextTo(a)) {
                    if (b.length() == k) {
                        ring.add(b);
                    }
                }
            }
            rings.add(ring);
        }
        return rings;
    }

    /** By how many shortest ways each crossing on them is reached, from one crossing to another one. */
    static Map<String, Long> onShortestWays(String a, String b) {
        Map<String, Long> times = new TreeMap<>();
        ArrayDeque<String> open = new ArrayDeque<>();
        String from = plain(a);
        times.put(from, 1L);
        open.add(from);
        while (!open.isEmpty()) {
            String here = open.remove();
            for (String next : nextTo(here)) {
                if (gap(next, b) < gap(here, b)) {
                    if (!times.containsKey(next)) {
                        open.add(next);
                    }
                    times.merge(next, times.get(here), Long::sum);
                }
            }
        }
        return times;
    }

    /** The streets of the first shortest way, chosen one by one. */
    static String way(String a, String b) {
        StringBuilder way = new StringBuilder();
        String here = plain(a);
        int left = gap(here, b);
        while (left > 0) {
            for (char c = '1'; c <= '5'; c++) {
                if (gap(here + c, b) < left) {
                    way.append(c);
                    here = plain(here + c);
                    left--;
                    break;
                }
            }
        }
        return way.toString();
    }

    static List<String> onWay(String a, String b) {
        List<String> on = new ArrayList<>();
        String way = way(a, b);
        for (int i = 0; i <= way.length(); i++) {
            on.add(plain(a + way.substring(0, i)));
        }
        return on;
    }

    /** Whether two words are one crossing by the document's own words: changing, leaving out, without matrices. */
    static Set<String> allShortest(String word) {
        Set<String> seen = new LinkedHashSet<>();
        ArrayDeque<String> open = new ArrayDeque<>();
        seen.add(word);
        open.add(word);
        while (!open.isEmpty()) {
            String here = open.remove();
            for (int i = 0; i + 1 < here.length(); i++) {
                int x = here.charAt(i) - '1';
                int y = here.charAt(i + 1) - '1';
                if (x == y) {
                    return allShortest(here.substring(0, i) + here.substring(i + 2));
                }
                if (neighbours(x, y)) {
                    String changed = here.substring(0, i) + here.charAt(i + 1) + here.charAt(i) + here.substring(i + 2);
                    if (seen.add(changed)) {
                        open.add(changed);
                    }
                }
            }
        }
        return seen;
    }
}
