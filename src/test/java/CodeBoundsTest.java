import java.util.Map;

/** Promises 20 to 30 at their bounds: CODES of 0 and of 9 figures, what is no CODE, farther than 9 from HOME. */
public final class CodeBoundsTest {
    private static final Due DUE = new Due();
    private static final String[] NINE = {"131313131", "135241352", "242424242", "555555555", "111111111", "123451234",
        "543215432", "152535455", "111111112", "212121212", "345345345"};

    public static void main(String[] args) {
        whatIsACode();
        oneFigureOut();
        home();
        nineFigures();
        pairsOfNine();
        joinsAtNine();
        paths();
        lying();
        triangles();
        neighboursRound();
        DUE.end();
    }

    private static Run run(String name) {
        return new Run(DUE, name);
    }

    private static boolean isCode(int number) {
        return number == 0 || Integer.toString(number).matches("[1-5]{1,9}");
    }

    /** All numbers up to 2,000 and those about the bounds: PLAIN or BAD. */
    private static void whatIsACode() {
        Run run = run("codes");
        int calls = 0;
        for (int number = -10; number <= 2000; number++) {
            DUE.is("plain(" + number + ") is BAD", run.does("plain(" + number + ")") == WideTown.BAD ? 0 : 1,
                isCode(number) ? 1 : 0);
            calls++;
            if (calls == 500) {
                run = run("codes from " + number);
                calls = 0;
            }
        }
        run = run("codes of many figures");
        run.bad("plain(555555556)", "plain(555555560)", "plain(555555561)", "plain(555555611)", "plain(611111111)",
            "plain(555555550)", "plain(105555555)", "plain(111111110)", "plain(100000000)", "plain(999999999)",
            "plain(1111111111)", "plain(1000000000)", "plain(2147483647)", "plain(-2147483648)", "plain(-555555555)",
            "plain(-1)", "plain(-11)", "plain(1555555555)", "plain(1215752192)");
        run.is("plain(0)", 0).is("plain(1)", 1).is("plain(5)", 5).is("plain(55)", 0).is("plain(51)", 15);
        run.is("plain(111111111)", 1).is("plain(555555555)", 5).is("plain(555555554)", 4).is("plain(11111111)", 0);
        run.is("plain(131313131)", 131313131).is("plain(135241352)", Crossings.code("135241352"));
    }

    /** A CODE of 9 figures with one figure that is none, at each place. */
    private static void oneFigureOut() {
        for (int place = 0; place < 9; place++) {
            for (char figure : new char[] {'0', '1', '5', '6', '9'}) {
                String told = "135241352".substring(0, place) + figure + "135241352".substring(place + 1);
                // a 0 ahead is a CODE of 8 figures
                boolean code = figure == '1' || figure == '5' || figure == '0' && place == 0;
                int want = code ? Crossings.code(figure == '0' ? told.substring(1) : told) : WideTown.BAD;
                run("a figure out").is("plain(" + Integer.parseInt(told) + ")", want);
            }
        }
    }

    private static void home() {
        Run run = run("home").is("plain(0)", 0).is("join(0, 0)", 0).is("back(0)", 0).is("far(0, 0)", 0)
            .is("ends(0)", 0);
        run.is("begins(0)", 0).tells("ways(0, 0)", 1, 1).is("between(0, 0)", 1).is("lies(0, 0, 0)", 1);
        run.is("lies(0, 0, 1)", 0).is("lies(1, 1, 1)", 1).is("lies(1, 1, 0)", 0).is("thin(0, 0, 0)", 0);
        run.is("path(0, 0, 0)", 0).is("count(6)", 1).holds(0).tells("beyond(0, 0)", 1, 1);
        for (int s = 1; s <= 5; s++) {
            run.is("join(0, " + s + ")", s).is("join(" + s + ", 0)", s).is("join(" + s + ", " + s + ")", 0);
            run.is("back(" + s + ")", s).is("far(0, " + s + ")", 1).is("ends(" + s + ")", 1 << s - 1);
            run.is("begins(" + s + ")", 1 << s - 1).tells("ways(0, " + s + ")", 1, 1).is("between(0, " + s + ")", 2);
            run.is("ends(" + s + s + ")", 0).is("begins(" + s + s + ")", 0);
        }
        run.tells("ways(13, 13)", 1, 1).is("between(13, 13)", 1).is("far(21, 12)", 0).is("path(21, 12, 1)", 0).holds(1);
    }

    private static void nineFigures() {
        for (String code : NINE) {
            Run run = run("nine figures").is("plain(" + code + ")", Crossings.code(code));
            String plain = Crossings.plain(code);
            String back = Crossings.plain(Crossings.reverse(code));
            run.is("back(" + code + ")", Crossings.code(Crossings.reverse(code)))
                .is("far(0, " + code + ")", plain.length());
            run.is("far(" + code + ", 0)", plain.length()).is("far(" + code + ", " + code + ")", 0);
            run.is("join(" + code + ", 0)", Crossings.code(code)).is("join(0, " + code + ")", Crossings.code(code));
            int ends = 0;
            int begins = 0;
            for (String word : Crossings.allShortest(code)) {
                ends |= 1 << word.charAt(word.length() - 1) - '1';
                begins |= 1 << word.charAt(0) - '1';
            }
            run.is("ends(" + code + ")", ends).is("begins(" + code + ")", begins);
            run.is("join(" + code + ", " + Crossings.code(back) + ")", 0);
            run.tells("ways(0, " + code + ")", Crossings.allShortest(code).size(), 1);
            run.tells("ways(" + code + ", 0)", Crossings.allShortest(code).size(), 1);
            run.tells("ways(" + code + ", " + code + ")", 1, 1).is("between(" + code + ", " + code + ")", 1);
            run.is("between(0, " + code + ")", Crossings.onShortestWays("", code).size());
        }
    }

    /** Up to 18 apart: ways lead by CROSSINGS that no CODE tells. */
    private static void pairsOfNine() {
        for (String a : NINE) {
            for (String b : NINE) {
                String pair = "(" + a + ", " + b + ")";
                Map<String, Long> on = Crossings.onShortestWays(a, b);
                Run run = run("pairs of nine").is("far" + pair, Crossings.gap(a, b)).is("between" + pair, on.size());
                run.tells("ways" + pair, on.get(Crossings.plain(b)), 1);
                run.is("path(" + a + ", " + b + ", 5)", Crossings.gap(a, b)).holds(5, streets(Crossings.way(a, b)));
                String lies = "lies(" + a + ", " + b + ", ";
                run.is(lies + "0)", on.containsKey("") ? 1 : 0).is(lies + a + ")", 1).is(lies + b + ")", 1);
            }
        }
        run("18 apart").is("far(131313131, 242424242)", 18).is("far(131313131, 131313131)", 0)
            .is("far(131313131, 313131313)", 18).is("far(131313131, 131313135)", 2);
    }

    private static int[] streets(String way) {
        int[] streets = new int[way.length()];
        for (int i = 0; i < streets.length; i++) {
            streets[i] = way.charAt(i) - '1';
        }
        return streets;
    }

    private static void joinsAtNine() {
        Run run = run("joins at nine").is("join(13131313, 1)", 131313131).is("join(131313131, 1)", 13131313);
        run.is("join(131313131, 3)", WideTown.SPENT).is("join(131313131, 2)", WideTown.SPENT);
        run.is("join(1, 313131313)", WideTown.SPENT).is("join(1, 31313131)", 131313131).is("finding()", 0);
        // 18 figures that lead to 9, to 10, HOME
        run.is("join(131313131, 131313131)", 0).is("join(131313135, 531313131)", 0);
        run.is("join(135241352, 253142531)", 0).is("join(131313131, 313131313)", WideTown.SPENT);
        run.is("join(131311313, 131313131)", Crossings.code("131311313131313131"));
        run.is("join(111111111, 131313131)", 31313131).is("join(111111111, 313131313)", WideTown.SPENT);
        run.is("join(111111111, 31313131)", 131313131).is("join(131313131, 111111111)", 13131313);
        for (String a : NINE) {
            for (String b : NINE) {
                run("joins of nine").is("join(" + a + ", " + b + ")", Crossings.code(a + b));
            }
        }
    }

    private static void paths() {
        Run run = run("paths").bad("path(0, 1, 6)", "path(0, 1, -1)", "path(6, 1, 0)", "path(1, 6, 0)")
            .is("count(6)", 0);
        for (int r = 0; r <= 5; r++) {
            run.is("path(0, 5, " + r + ")", 1).holds(r, 4).is("count(6)", r + 1);
        }
        run.then("row(0, 40)", "lay(0, 39, 7)").is("path(131313131, 242424242, 0)", 18);
        run.asks("at(0, 17)", 1, 1).finds(Run.BEYOND, "at(0, 18)").is("path(0, 0, 0)", 0).finds(Run.BEYOND, "at(0, 0)");
        // of two ways the first by STREETS: 12, not 21; 15, not 51
        run.is("path(0, 21, 1)", 2).holds(1, 0, 1).is("path(0, 51, 1)", 2).holds(1, 0, 4);
        run.is("path(12, 0, 1)", 2).holds(1, 0, 1).is("path(1, 2, 1)", 2).holds(1, 0, 1).is("path(2, 1, 1)", 2)
            .holds(1, 0, 1);
    }

    private static void lying() {
        Run run = run("lying").is("lies(0, 12, 1)", 1).is("lies(0, 12, 2)", 1).is("lies(0, 12, 21)", 1)
            .is("lies(0, 12, 0)", 1);
        run.is("lies(0, 12, 3)", 0).is("lies(0, 13, 3)", 0).is("lies(0, 13, 1)", 1).is("lies(0, 13, 131)", 0);
        run.is("lies(1, 3, 0)", 1).is("lies(1, 3, 13)", 0).is("lies(0, 131313131, 13131313)", 1);
        run.is("lies(0, 13131313, 131313131)", 0).is("lies(131313131, 242424242, 0)", 1).is("lies(1, 2, 12)", 1);
    }

    private static void triangles() {
        Run run = run("triangles").is("thin(1, 1, 1)", 0).is("thin(131313131, 131313131, 242424242)", 0);
        // both ways to the third one lead by all of the side, or by none of it but its ends
        run.is("thin(0, 131313131, 13131)", 0).is("thin(0, 1, 0)", 0).is("thin(12, 0, 0)", 0).is("thin(0, 12, 12)", 0);
        // there by 1, back by 2
        run.is("thin(0, 12, 0)", 1);
        String[] some = {"131313131", "242424242", "123451234", "543215432", "352413524"};
        for (String a : some) {
            for (String b : some) {
                for (String c : some) {
                    run("triangles of nine").is("thin(" + a + ", " + b + ", " + c + ")", thin(a, b, c));
                }
            }
        }
    }

    private static int thin(String a, String b, String c) {
        int most = 0;
        for (String p : Crossings.onWay(a, b)) {
            int least = 99;
            for (String q : Crossings.onWay(a, c)) {
                least = Math.min(least, Crossings.gap(p, q));
            }
            for (String q : Crossings.onWay(b, c)) {
                least = Math.min(least, Crossings.gap(p, q));
            }
            most = Math.max(most, least);
        }
        return most;
    }

    /** STREETS are NEIGHBOURS round: 0 and 4 too, and none else. */
    private static void neighboursRound() {
        Run run = run("neighbours");
        for (int s = 1; s <= 5; s++) {
            for (int t = 1; t <= 5; t++) {
                boolean near = s - t == 1 || t - s == 1 || s - t == 4 || t - s == 4;
                int code = 10 * s + t;
                int other = 10 * t + s;
                run.is("plain(" + code + ")", s == t ? 0 : near ? Math.min(code, other) : code);
                run.is("far(" + code + ", " + other + ")", s == t || near ? 0 : 4);
                run.is("ends(" + code + ")", s == t ? 0 : near ? 1 << s - 1 | 1 << t - 1 : 1 << t - 1);
                run.tells("ways(0, " + code + ")", near ? 2 : 1, 1);
            }
        }
    }
}
