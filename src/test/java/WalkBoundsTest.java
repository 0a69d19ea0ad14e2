import java.util.ArrayList;
import java.util.HashSet;
import java.util.Set;

/** Promises 36 to 43, 46, 47 at their bounds: walks, rounds, posts, fires by ROWS that are empty and full, LOTS. */
public final class WalkBoundsTest {
    private static final int NONE = WideTown.NONE;
    private static final Due DUE = new Due();

    public static void main(String[] args) {
        emptyRows();
        whichRows();
        streetsAtTheirEnds();
        walksToNine();
        fullWalks();
        roundsOfSix();
        roundsOfAlike();
        postsAtThree();
        fullPosts();
        firesByHours();
        guards();
        heldAtFour();
        idleOnes();
        lots();
        askedLast();
        DUE.end();
    }

    private static Run run(String name) {
        return new Run(DUE, name);
    }

    private static int[] all(int n, int v) {
        int[] places = new int[n];
        for (int i = 0; i < n; i++) {
            places[i] = v;
        }
        return places;
    }

    /** n STREETS that lead straight on. */
    private static int[] straight(int n) {
        int[] places = new int[n];
        for (int i = 1; i < n; i += 2) {
            places[i] = 2;
        }
        return places;
    }

    private static void emptyRows() {
        Run run = run("empty rows").row(0).row(1, 7).then("at(1, 0)").asks("walk(0)", 0, 0).then("at(1, 0)");
        run.asks("reaches(0)", 0, 0).is("sees(0)", 1).is("round(0, 1)", 0).holds(1).row(1, 7).then("at(1, 0)");
        run.asks("post(0)", 0, 0).asks("held(0)", 0, 166).is("idle(0)", NONE).is("burns(0, 4)", 166)
            .is("burns(0, 0)", 1);
        run.is("round(0, 0)", 0).holds(0).is("round(0, 5)", 0).holds(5).is("count(6)", 3);
    }

    private static void whichRows() {
        Run run = run("which rows");
        for (int r = 0; r <= 5; r++) {
            run.row(r, 1, 3).asks("walk(" + r + ")", 24, 0).asks("reaches(" + r + ")", 2, 2).is("sees(" + r + ")", 3);
            run.asks("post(" + r + ")", 0, 2).is("burns(" + r + ", 1)", 4).is("idle(" + r + ")", NONE);
            run.is("held(" + r + ")", 0).is("round(" + r + ", " + (5 - r) + ")", 4).holds(5 - r, 0, 1);
        }
        for (String call : new String[] {"walk(X)", "reaches(X)", "sees(X)", "post(X)", "burns(X, 1)", "held(X)",
            "idle(X)",
            "round(X, 0)", "round(0, X)"}) {
            run.bad(call.replace("X", "6"), call.replace("X", "-1"));
        }
        run.then("tear(3)").finds(Run.NOTHING, "walk(3)", "reaches(3)", "sees(3)", "post(3)", "burns(3, 1)", "held(3)",
            "idle(3)", "round(3, 0)");
        // the ROW that the order comes to may be missing
        run.is("round(0, 3)", 2).holds(3, 0, 1);
    }

    private static void streetsAtTheirEnds() {
        for (int v : new int[] {-1, 0, 4, 5, Integer.MIN_VALUE, Integer.MAX_VALUE}) {
            boolean street = v == 0 || v == 4;
            for (int place = 0; place < 3; place += 2) {
                Run run = run("a street " + v).row(0, 2, 2, 2).then("lay(0, " + place + ", " + v + ")");
                if (street) {
                    run.asks("walk(0)", v + 1, 2).is("sees(0)", 3).is("reaches(0)", place == 0 ? 2 : 1);
                } else {
                    run.finds(Run.UNLIKE, "walk(0)", "sees(0)", "reaches(0)");
                }
            }
        }
        // what an earlier ROW had behind the end is not looked at
        Run run = run("behind the end").row(0, 9, 9, 9).row(0, 4).asks("walk(0)", 5, 0).row(1, 9, 9).row(1);
        run.asks("walk(1)", 0, 0).asks("post(1)", 0, 0).row(1, 99, 99).then("path(0, 1, 1)").asks("walk(1)", 1, 0);
    }

    private static void walksToNine() {
        Run run = run("walks to nine").row(0, straight(9)).asks("walk(0)", 131313131, 0).asks("reaches(0)", 9, 9);
        run.row(0, straight(10)).then("at(0, 1)").asks("walk(0)", WideTown.SPENT, 2).is("finding()", 0);
        run.asks("reaches(0)", 10, 10).is("sees(0)", 11);
        // by 10 and back to 9; to 10 again
        run.row(0, 0, 2, 0, 2, 0, 2, 0, 2, 0, 2, 2).asks("walk(0)", 131313131, 2).asks("reaches(0)", 10, 10);
        run.is("sees(0)", 11).row(0, 0, 2, 0, 2, 0, 2, 0, 2, 0, 2, 2, 2).then("at(0, 1)")
            .asks("walk(0)", WideTown.SPENT, 2);
        run.then("lay(0, 11, 5)").finds(Run.UNLIKE, "walk(0)");
    }

    private static void fullWalks() {
        Run run = run("full walks").row(0, straight(40)).then("at(0, 1)").asks("walk(0)", WideTown.SPENT, 2);
        run.asks("reaches(0)", 40, 40).is("sees(0)", 41).row(0, all(40, 3)).asks("walk(0)", 0, 40);
        run.asks("reaches(0)", 1, 1).is("sees(0)", 2);
        int[] there = straight(40);
        for (int i = 20; i < 40; i++) {
            there[i] = there[39 - i];
        }
        run.row(0, there).asks("walk(0)", 0, 40).asks("reaches(0)", 20, 20).is("sees(0)", 21);
        // round about one house ten times: 4 corners
        int[] house = new int[40];
        for (int i = 0; i < 40; i++) {
            house[i] = i % 2 == 0 ? 0 : 4;
        }
        run.row(0, house).asks("walk(0)", 0, 40).asks("reaches(0)", 2, 2).is("sees(0)", 4);
        int[] late = all(40, 1);
        late[39] = 3;
        run.row(0, late).asks("walk(0)", 24, 38).asks("reaches(0)", 2, 40).is("sees(0)", 3);
    }

    private static void roundsOfSix() {
        Run run = run("rounds of six").row(0, 131, 24, 35, 41, 52, 1313)
            .is("round(0, 1)", roundOf(131, 24, 35, 41, 52, 1313));
        run.row(0, 555555555, 131313131, 242424242, 313131313, 424242424, 535353535).then("row(1, 40)");
        // 5 lies on the way to the last one
        run.is("round(0, 1)", 18 * 5).holds(1, 0, 5, 1, 2, 3, 4);
        run.row(0, 0, 0, 0, 0, 0, 0).is("round(0, 5)", 0).holds(5, 0, 1, 2, 3, 4, 5);
        run.row(0, 131313131).is("round(0, 0)", 18).holds(0, 0).row(0, 131313131, 131313131).is("round(0, 2)", 18);
        run.row(3, 0, 0, 0, 0, 0, 0, 0).finds(Run.SIZE, "round(3, 1)").row(3, all(40, 1))
            .finds(Run.SIZE, "round(3, 4)");
        run.finds(Run.NOTHING, "at(4, 0)");
        for (String no : new String[] {"-1", "6", "10", "555555556", "1111111111", "max", "min"}) {
            for (int place = 0; place < 6; place += 5) {
                run.row(3, 1, 2, 3, 4, 5, 1).then("lay(3, " + place + ", " + no + ")").finds(Run.UNLIKE, "round(3, 4)");
            }
        }
        run.finds(Run.NOTHING, "at(4, 0)");
    }

    /** The least of all orders, by the tests' own gaps. */
    private static int roundOf(int... codes) {
        return roundOn("", 0, codes);
    }

    private static int roundOn(String here, int been, int[] codes) {
        if (been == (1 << codes.length) - 1) {
            return here.length();
        }
        int least = 9999;
        for (int i = 0; i < codes.length; i++) {
            if ((been >> i & 1) == 0) {
                String there = Crossings.plain(codes[i] == 0 ? "" : Integer.toString(codes[i]));
                least = Math.min(least, Crossings.gap(here, there) + roundOn(there, been | 1 << i, codes));
            }
        }
        return least;
    }

    private static void roundsOfAlike() {
        Run run = run("rounds of alike ones").row(0, 5, 4, 3, 2, 1).is("round(0, 1)", 10).holds(1, 0, 1, 2, 3, 4);
        // there and back is as long: the order that begins by the first place
        run.row(0, 131, 1, 13).is("round(0, 1)", 6).holds(1, 0, 2, 1).row(0, 13, 131, 1).is("round(0, 1)", 6);
        run.holds(1, 0, 1, 2).row(0, 24, 13, 131, 242).is("round(0, 1)", 12).holds(1, 0, 3, 1, 2);
        run.row(0, 24, 13, 242, 131).is("round(0, 1)", 12).holds(1, 0, 2, 1, 3);
        // round about a house, the far corner told first, then last
        run.row(0, 12, 1, 2).is("round(0, 1)", 4).holds(1, 1, 0, 2).row(0, 1, 2, 12).is("round(0, 1)", 4);
        run.holds(1, 0, 2, 1);
    }

    private static void postsAtThree() {
        Run run = run("posts at three").row(0, 131).asks("post(0)", 131, 0).row(0, 1313).asks("post(0)", 131, 1);
        run.row(0, 131313131).asks("post(0)", 131, 6).row(0, 1313, 1313, 1313, 0).asks("post(0)", 131, 6);
        run.row(0, 1313, 0).asks("post(0)", 0, 4).row(0, 555).asks("post(0)", 5, 0).row(0, 1234, 1234)
            .asks("post(0)", 123, 2);
        // of alike ones the nearest HOME, then the first CODE
        run.row(0, 13, 1).asks("post(0)", 1, 1).row(0, 1, 2, 12, 0).asks("post(0)", 0, 4).row(0, 3, 3, 24, 24);
        run.asks("post(0)", 0, 6).row(0, 123, 125).asks("post(0)", 12, 2).row(0, 134, 154).asks("post(0)", 14, 2);
        // 131 and 135 lie on shortest ways to both: 135131 is 131531
        run.row(0, 135131, 135132).asks("post(0)", 131, 6);
    }

    private static void fullPosts() {
        Run run = run("full posts").row(0, all(20, 131313131)).asks("post(0)", 131, 120);
        run.row(0, all(20, 0)).asks("post(0)", 0, 0).row(0, all(21, 0)).finds(Run.SIZE, "post(0)").is("asked()", 0);
        run.row(0, all(20, 24)).then("lay(0, 19, 6)").finds(Run.UNLIKE, "post(0)").then("lay(0, 19, 555555555)");
        run.asks("post(0)", 24, 3).then("lay(0, 0, 10)").finds(Run.UNLIKE, "post(0)").row(0, all(40, 0));
        run.finds(Run.SIZE, "post(0)");
    }

    private static void firesByHours() {
        int[] free = {1, 6, 21, 61, 166};
        Run run = run("fires by hours").row(0).row(1, 1).bad("burns(0, -1)", "burns(0, 5)", "burns(0, max)",
            "burns(0, min)");
        for (int n = 0; n <= 4; n++) {
            run.is("burns(0, " + n + ")", free[n]).is("burns(1, " + n + ")", behind(n, "1"));
        }
        DUE.is("by one guard", behind(1, "1"), 5);
    }

    /** How many burn behind n HOURS, by sets of words. */
    private static int behind(int n, String... guards) {
        Set<String> burning = new HashSet<>();
        Set<String> shut = new HashSet<>();
        for (String guard : guards) {
            shut.add(Crossings.plain(guard));
        }
        burning.add("");
        for (int hour = 0; hour < n; hour++) {
            for (String a : new ArrayList<>(burning)) {
                for (String b : Crossings.nextTo(a)) {
                    if (!shut.contains(b)) {
                        burning.add(b);
                    }
                }
            }
        }
        return burning.size();
    }

    private static void guards() {
        Run run = run("guards").row(0, all(20, 0)).is("burns(0, 4)", 166).is("burns(0, 0)", 1).asks("held(0)", 0, 166);
        run.row(0, all(20, 1)).is("burns(0, 4)", behind(4, "1")).row(0, all(21, 1));
        run.finds(Run.SIZE, "burns(0, 1)", "held(0)", "idle(0)").row(0, all(40, 1)).finds(Run.SIZE, "burns(0, 1)");
        // the twentieth guard holds, too
        run.row(0, all(20, 1)).then("lay(0, 19, 2)").is("burns(0, 4)", behind(4, "1", "2"));
        run.then("lay(0, 19, 6)").finds(Run.UNLIKE, "burns(0, 0)", "held(0)", "idle(0)").then("lay(0, 19, 1)");
        run.then("lay(0, 0, -1)").finds(Run.UNLIKE, "burns(0, 4)", "held(0)", "idle(0)");
        // guards 4 and 5 off; of 9 figures, but near by
        run.row(1, 1313).is("burns(1, 4)", 165).is("burns(1, 3)", 61).row(1, 13131, 131313131).is("burns(1, 4)", 166);
        run.row(1, 555555555).is("burns(1, 1)", 5).is("burns(1, 4)", behind(4, "5")).row(1, 212121211)
            .is("burns(1, 1)", 5);
    }

    private static void heldAtFour() {
        Run run = run("held at four").row(0, 1, 2, 3, 4, 5).asks("held(0)", 1, 1).row(0, 1, 2, 3, 4);
        run.asks("held(0)", 0, behind(4, "1", "2", "3", "4"));
        // what is 3 off may burn, if nothing 4 off does: 8 guards about 5, or one gap left
        run.row(0, 1, 2, 3, 4, 15, 52, 53, 45).asks("held(0)", 1, 2).row(0, 1, 2, 3, 4, 15, 52, 45);
        run.asks("held(0)", 0, behind(4, "1", "2", "3", "4", "15", "52", "45"));
        // a thread of fire by 5, 53, 535 is held at 4 off; with one guard less it is not
        String[] thread = {"1", "2", "3", "4", "15", "52", "45", "523", "531", "534", "5351", "5352", "5354", "5353"};
        DUE.is("a thread of fire", behind(4, thread), 4);
        run.row(0, codes(thread)).asks("held(0)", 1, 4);
        run.then("lay(0, 13, 0)").asks("held(0)", 0, 5);
        // an earlier fire leaves nothing behind
        run.then("lay(0, 13, 5353)").asks("held(0)", 1, 4).row(1).asks("held(1)", 0, 166).asks("held(0)", 1, 4);
    }

    private static int[] codes(String... words) {
        int[] codes = new int[words.length];
        for (int i = 0; i < codes.length; i++) {
            codes[i] = Integer.parseInt(words[i]);
        }
        return codes;
    }

    private static void idleOnes() {
        Run run = run("idle ones").row(0, 1).is("idle(0)", NONE).row(0, 0).is("idle(0)", 0).row(0, 13131)
            .is("idle(0)", 0);
        run.row(0, 1313).is("idle(0)", NONE).row(0, all(20, 1)).is("idle(0)", 0).row(0, 1, 2, 1).is("idle(0)", 0);
        String[] rings = {"1", "2", "24", "35", "141", "142", "313", "314", "353", "424", "425", "531", "535", "1413",
            "1414",
            "3131", "3135", "4242", "5353", "131313131"};
        run.row(0, codes(rings)).is("idle(0)", idleOf(rings)).is("asked()", 0);
        // 13 is held by its own guard alone: 2, 12, 123 lead there in 4 HOURS
        run.row(0, 1, 13).is("idle(0)", NONE).row(0, 1, 2, 3, 4, 5, 13).is("idle(0)", 5);
        run.then("row(0, 21)").finds(Run.SIZE, "idle(0)");
    }

    private static int idleOf(String[] guards) {
        for (int i = 0; i < guards.length; i++) {
            String[] left = guards.clone();
            // HOME burns anyhow: no guard's place
            left[i] = "";
            if (behind(4, left) == behind(4, guards)) {
                return i;
            }
        }
        return NONE;
    }

    private static void lots() {
        Run run = run("lots").bad("drunk(0, 1)", "drunk(-1, 1)", "drunk(61, 1)", "drunk(1, 0)", "drunk(1, -1)",
            "drunk(1, max)",
            "drunk(1, min)", "drunk(min, 1)", "drunk(max, 1)", "drunk(61, 2147483646)", "drunk(60, max)");
        int[] seeds = {1, 2, 5, 99, 48271, 1234567890, 2147483645, 2147483646};
        for (int seed : seeds) {
            for (int n : new int[] {1, 2, 59, 60}) {
                drunk(run, n, seed);
            }
        }
        // 48271 modulo 5 and 2147483646 times it, which is as much less than the modulus
        run.asks("drunk(1, 1)", 2, 0).asks("drunk(1, 2147483646)", 2, 0);
    }

    private static void drunk(Run run, int n, int seed) {
        long lot = seed;
        String here = "";
        int home = 0;
        for (int k = 0; k < n; k++) {
            lot = lot * 48271 % 2147483647L;
            String next = Crossings.plain(here + (1 + lot % 5));
            // what would lead farther is passed
            here = next.length() > 9 ? here : next;
            home += here.isEmpty() ? 1 : 0;
        }
        run.asks("drunk(" + n + ", " + seed + ")", Crossings.code(here), home);
    }

    /** asked() is told by ten calls, and stays behind what is refused, behind NONE, and behind all others. */
    private static void askedLast() {
        Run run = run("asked last").is("asked()", 0).row(0, 0, 2, 4, 4).row(1, 7, 9).row(2).row(3, straight(10));
        run.town("w0 s1 w3").then("stand(0, 12)", "at(1, 1)").is("asked()", 9);
        String[] refused = {"lay(6, 0, 0)", "lay(5, 0, 0)", "lay(1, 2, 0)", "at(6, 0)", "at(5, 0)", "at(1, 2)",
            "mean(6)",
            "mean(5)", "mean(2)", "walker(3, 0)", "walker(0, 5)", "walk(6)", "walk(5)", "walk(1)", "walk(3)",
                "reaches(6)",
            "reaches(5)", "reaches(1)", "post(6)", "post(5)", "post(1)", "held(6)", "held(5)", "held(1)", "meet(0, 0)",
            "meet(0, 3)", "meet(0, 2)", "drunk(0, 1)", "drunk(1, 0)"};
        for (String call : refused) {
            DUE.that(call + " is refused, or NONE", run.does(call) < 0);
            run.is("asked()", 9);
        }
        for (String call : new String[] {"row(4, 3)", "tear(4)", "copy(1, 0, 1, 1, 1)", "text(1, 3)", "put(1, 0, 5)",
            "fault(1)", "mark(1, 1)", "stand(2, 3)", "head(2, 0)", "hours(2)", "undo(1)", "keep(0)", "on(0)",
                "plain(21)",
            "join(1, 2)", "far(1, 3)", "ways(0, 12)", "between(0, 12)", "path(0, 12, 4)", "thin(0, 12, 3)", "edge(3)",
            "houses(2)", "sees(0)", "round(2, 4)", "burns(2, 3)", "idle(2)", "part(0, 1, 3)", "count(1)", "digest()",
            "town(0)"}) {
            run.then(call).is("asked()", 9);
        }
        run.asks("walk(0)", 13, 2).asks("reaches(0)", 3, 3).asks("post(2)", 0, 0).asks("held(2)", 0, 166);
        run.asks("mean(1)", 1, 7).asks("lay(1, 0, 8)", 1, 7).asks("at(1, 0)", 1, 8).asks("walker(1, 2)", 1, 1);
        run.asks("meet(0, 1)", 0, 0).then("at(1, 0)").asks("drunk(1, 1)", 2, 0);
    }
}
