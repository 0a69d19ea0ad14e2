import java.util.ArrayList;
import java.util.List;
import java.util.Map;
import java.util.Random;
import java.util.Set;

/** Promises 20 to 30: crossings by codes. */
public final class CrossingsTest {
    private static final Due DUE = new Due();
    private static final int[] NO_CODES = {-1, 6, 10, 16, 61, 102, 1000, 555555556, 666666666, 1111111111,
        Integer.MIN_VALUE, Integer.MAX_VALUE};

    public static void main(String[] args) {
        DUE.is("BAD", WideTown.BAD, -1);
        DUE.is("FULL", WideTown.FULL, -2);
        DUE.is("FINDING", WideTown.FINDING, -3);
        DUE.is("STATE", WideTown.STATE, -4);
        DUE.is("SPENT", WideTown.SPENT, -6);
        DUE.is("NONE", WideTown.NONE, -9);
        noCodes();
        edges();
        wordsByRules();
        allNear();
        farPairs();
        triangles();
        DUE.end();
    }

    private static String word(int code) {
        return code == 0 ? "" : Integer.toString(code);
    }

    private static int code(String word) {
        return word.isEmpty() ? 0 : Integer.parseInt(word);
    }

    private static void noCodes() {
        for (int no : NO_CODES) {
            WideTown x = new WideTown();
            long before = x.digest();
            DUE.is("plain(" + no + ")", x.plain(no), WideTown.BAD);
            DUE.is("join(" + no + ", 1)", x.join(no, 1), WideTown.BAD);
            DUE.is("join(1, " + no + ")", x.join(1, no), WideTown.BAD);
            DUE.is("back(" + no + ")", x.back(no), WideTown.BAD);
            DUE.is("far(" + no + ", 1)", x.far(no, 1), WideTown.BAD);
            DUE.is("far(1, " + no + ")", x.far(1, no), WideTown.BAD);
            DUE.is("ends(" + no + ")", x.ends(no), WideTown.BAD);
            DUE.is("begins(" + no + ")", x.begins(no), WideTown.BAD);
            DUE.is("ways(" + no + ", 1)", x.ways(no, 1), WideTown.BAD);
            DUE.is("ways(1, " + no + ")", x.ways(1, no), WideTown.BAD);
            DUE.is("between(" + no + ", 1)", x.between(no, 1), WideTown.BAD);
            DUE.is("between(1, " + no + ")", x.between(1, no), WideTown.BAD);
            DUE.is("lies(" + no + ", 1, 1)", x.lies(no, 1, 1), WideTown.BAD);
            DUE.is("lies(1, " + no + ", 1)", x.lies(1, no, 1), WideTown.BAD);
            DUE.is("lies(1, 1, " + no + ")", x.lies(1, 1, no), WideTown.BAD);
            DUE.is("path(" + no + ", 1, 0)", x.path(no, 1, 0), WideTown.BAD);
            DUE.is("path(1, " + no + ", 0)", x.path(1, no, 0), WideTown.BAD);
            DUE.is("thin(" + no + ", 1, 1)", x.thin(no, 1, 1), WideTown.BAD);
            DUE.is("thin(1, " + no + ", 1)", x.thin(1, no, 1), WideTown.BAD);
            DUE.is("thin(1, 1, " + no + ")", x.thin(1, 1, no), WideTown.BAD);
            DUE.is("path(1, 1, 6)", x.path(1, 1, 6), WideTown.BAD);
            DUE.is("path(1, 1, -1)", x.path(1, 1, -1), WideTown.BAD);
            DUE.is("what was refused changes nothing", x.digest(), before);
            DUE.is("upper()", x.upper(), 0);
            DUE.is("finding()", x.finding(), 0);
        }
    }

    private static void edges() {
        WideTown x = new WideTown();
        DUE.is("join of 9 streets", x.join(13131, 3131), 131313131);
        DUE.is("join of 10 streets", x.join(13131, 31313), WideTown.SPENT);
        DUE.is("join of 18 streets that are 4", x.join(131313135, 531313124), 1234);
        DUE.is("join of 18 streets that are 0", x.join(131313131, 131313131), 0);
        DUE.is("back of 9 streets", x.back(131313135), 531313131);
        DUE.is("far of 18 streets", x.far(131313131, 242424242), 18);
        DUE.is("ways(0, 0)", x.ways(0, 0), 1);
        DUE.is("upper()", x.upper(), 1);
        DUE.is("lower()", x.lower(), 1);
        x.row(2, 40);
        DUE.is("path(1, 1, 2)", x.path(1, 1, 2), 0);
        DUE.is("the row is anew", x.at(2, 0), WideTown.FINDING);
        DUE.is("count(6)", x.count(6), 1);
    }

    /** Which words are one crossing, by the document's own rules. */
    private static void wordsByRules() {
        Random random = new Random(5);
        WideTown x = new WideTown();
        for (int k = 0; k < 3000; k++) {
            StringBuilder signs = new StringBuilder();
            for (int i = random.nextInt(10); i > 0; i--) {
                signs.append((char) ('1' + random.nextInt(5)));
            }
            Set<String> shortest = Crossings.allShortest(signs.toString());
            String first = shortest.stream().sorted().findFirst().orElse("");
            int ends = 0;
            int begins = 0;
            for (String word : shortest) {
                if (!word.isEmpty()) {
                    ends |= 1 << word.charAt(word.length() - 1) - '1';
                    begins |= 1 << word.charAt(0) - '1';
                }
            }
            int code = code(signs.toString());
            DUE.is("plain(" + code + ")", x.plain(code), code(first));
            DUE.is("far(0, " + code + ")", x.far(0, code), first.length());
            DUE.is("ends(" + code + ")", x.ends(code), ends);
            DUE.is("begins(" + code + ")", x.begins(code), begins);
            x.ways(0, code);
            DUE.is("ways(0, " + code + ")", x.upper(), shortest.size());
            x.ways(code, 0);
            DUE.is("ways(" + code + ", 0)", x.upper(), shortest.size());
            DUE.is("back of back(" + code + ")", x.back(x.back(code)), code(first));
            DUE.is("join(" + code + ", back)", x.join(code, x.back(code)), 0);
        }
    }

    /** All crossings no farther than 4: steps, neighbours, no two alike. */
    private static void allNear() {
        WideTown x = new WideTown();
        for (Set<String> ring : Crossings.rings(4)) {
            for (String a : ring) {
                DUE.is("plain(" + a + ")", x.plain(code(a)), code(a));
                DUE.is("back(" + a + ")", x.back(code(a)), code(Crossings.plain(Crossings.reverse(a))));
                for (int s = 1; s <= 5; s++) {
                    DUE.is("join(" + a + ", " + s + ")", x.join(code(a), s), code(Crossings.plain(a + s)));
                    DUE.is("far(" + a + ", " + a + s + ")", x.far(code(a), code(a + s)), 1);
                }
            }
        }
    }

    private static int anyCode(Random random, int most) {
        int code = 0;
        for (int i = random.nextInt(most + 1); i > 0; i--) {
            code = code * 10 + 1 + random.nextInt(5);
        }
        return code;
    }

    private static void farPairs() {
        Random random = new Random(6);
        WideTown x = new WideTown();
        for (int k = 0; k < 400; k++) {
            int a = anyCode(random, 9);
            int b = anyCode(random, 9);
            String told = "(" + a + ", " + b + ")";
            Map<String, Long> on = Crossings.onShortestWays(word(a), word(b));
            DUE.is("far" + told, x.far(a, b), Crossings.gap(word(a), word(b)));
            DUE.is("between" + told, x.between(a, b), on.size());
            DUE.is("ways" + told, x.ways(a, b), 1);
            DUE.is("upper() of ways" + told, x.upper(), on.get(Crossings.plain(word(b))));
            DUE.is("lower() of ways" + told, x.lower(), 1);
            int c = anyCode(random, 6);
            DUE.is("lies" + told + " " + c, x.lies(a, b, c), on.containsKey(Crossings.plain(word(c))) ? 1 : 0);
            for (String there : on.keySet()) {
                if (there.length() <= 9) {
                    DUE.is("lies" + told + " " + there, x.lies(a, b, code(there)), 1);
                }
            }
            String way = Crossings.way(word(a), word(b));
            DUE.is("path" + told, x.path(a, b, k % 6), way.length());
            for (int i = 0; i < way.length(); i++) {
                x.at(k % 6, i);
                DUE.is("place " + i + " of path" + told, x.asked(), way.charAt(i) - '1');
            }
            DUE.is("the size of path" + told, x.at(k % 6, way.length()), WideTown.FINDING);
        }
    }

    private static void triangles() {
        Random random = new Random(7);
        WideTown x = new WideTown();
        DUE.is("thin(0, 0, 0)", x.thin(0, 0, 0), 0);
        for (int k = 0; k < 300; k++) {
            int a = anyCode(random, 9);
            int b = anyCode(random, 9);
            int c = anyCode(random, 9);
            List<String> others = new ArrayList<>(Crossings.onWay(word(a), word(c)));
            others.addAll(Crossings.onWay(word(b), word(c)));
            int most = 0;
            for (String p : Crossings.onWay(word(a), word(b))) {
                int least = 99;
                for (String q : others) {
                    least = Math.min(least, Crossings.gap(p, q));
                }
                most = Math.max(most, least);
            }
            DUE.is("thin(" + a + ", " + b + ", " + c + ")", x.thin(a, b, c), most);
        }
    }
}
