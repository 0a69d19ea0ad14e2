import java.math.BigInteger;
import java.util.HashSet;
import java.util.Set;

/** Promises 31 to 35, 48, 49 at their bounds: none, 20, 30 STREETS off; lowest terms; what was told last. */
public final class CountBoundsTest {
    private static final Due DUE = new Due();

    public static void main(String[] args) {
        ends();
        edges();
        doors();
        doorsFarOff();
        houses();
        toldLast();
        DUE.end();
    }

    private static Run run(String name) {
        return new Run(DUE, name);
    }

    /** CROSSINGS just n off, by how many have one last STREET, how many two. */
    private static long[] rings() {
        long[] rings = new long[31];
        rings[0] = 1;
        long one = 5;
        long two = 0;
        for (int n = 1; n <= 30; n++) {
            rings[n] = one + two;
            long next = 2 * one + two;
            two = one + two;
            one = next;
        }
        return rings;
    }

    private static void ends() {
        Run run = run("rings").tells("ring(0)", 1, 1).tells("ring(1)", 5, 1).tells("ring(2)", 15, 1);
        run.tells("within(0)", 1, 1).tells("within(1)", 6, 1).tells("within(2)", 21, 1);
        long[] rings = rings();
        long all = 0;
        for (long ring : rings) {
            all += ring;
        }
        run.tells("ring(30)", rings[30], 1).tells("ring(29)", rings[29], 1);
        run.tells("within(30)", all, 1).tells("within(29)", all - rings[30], 1);
        DUE.that("more than an int holds", rings[30] > 4L * Integer.MAX_VALUE);
        run.bad("ring(-1)", "ring(31)", "ring(max)", "ring(min)", "within(-1)", "within(31)", "within(max)",
            "within(min)");
        run.is("upper()", all - rings[30]).is("lower()", 1);
    }

    private static void edges() {
        Run run = run("edges").tells("edge(0)", 1, 1).tells("edge(1)", 5, 6).tells("edge(2)", 5, 7);
        long[] rings = rings();
        long all = 0;
        for (int n = 0; n <= 30; n++) {
            all += rings[n];
            long divisor = BigInteger.valueOf(rings[n]).gcd(BigInteger.valueOf(all)).longValue();
            run.tells("edge(" + n + ")", rings[n] / divisor, all / divisor);
        }
        run.bad("edge(-1)", "edge(31)", "edge(max)", "edge(min)").tells("edge(0)", 1, 1);
    }

    private static void doors() {
        Run run = run("doors").tells("beyond(0, 0)", 1, 1).tells("beyond(1, 0)", 1, 1).tells("beyond(12, 0)", 1, 1);
        run.tells("beyond(131313131, 0)", 1, 1).tells("beyond(0, 1)", 5, 1).tells("beyond(1, 1)", 4, 1);
        run.tells("beyond(12, 1)", 3, 1).tells("beyond(51, 1)", 3, 1).tells("beyond(13, 1)", 4, 1);
        // not PLAIN: it is the CROSSING that counts
        run.tells("beyond(11, 1)", 5, 1).tells("beyond(111111111, 1)", 4, 1).tells("beyond(121212121, 1)", 4, 1);
        run.tells("beyond(0, 20)", rings()[20], 1);
        run.bad("beyond(0, -1)", "beyond(0, 21)", "beyond(0, max)", "beyond(0, min)", "beyond(131313131, 21)",
            "beyond(6, 0)", "beyond(-1, 0)", "beyond(10, 20)", "beyond(555555556, 0)", "beyond(1111111111, 20)");
        run.is("upper()", rings()[20]).is("lower()", 1);
    }

    /** A CROSSING 9 from HOME: those beyond have no CODE, but are counted. */
    private static void doorsFarOff() {
        for (String door : new String[] {"131313131", "131313124", "135241352", "1", "12", "15", "123451234"}) {
            Run run = run("a door far off");
            Set<String> there = new HashSet<>();
            there.add(Crossings.plain(door));
            long last = 0;
            long before = 0;
            for (int n = 0; n <= 20; n++) {
                // counted one by one at first, then each ring is 3 times the last one less the one ahead
                long want = n <= 6 ? there.size() : 3 * last - before;
                run.tells("beyond(" + door + ", " + n + ")", want, 1);
                before = last;
                last = want;
                there = n < 6 ? farther(there) : there;
            }
            run.bad("beyond(" + door + ", 21)", "beyond(" + door + ", -1)");
        }
    }

    private static Set<String> farther(Set<String> there) {
        Set<String> next = new HashSet<>();
        for (String a : there) {
            for (String b : Crossings.nextTo(a)) {
                if (b.length() > a.length()) {
                    next.add(b);
                }
            }
        }
        return next;
    }

    private static void houses() {
        // a house's four corners, from the nearest one on by two NEIGHBOURS that both lead farther
        Run run = run("houses").tells("houses(0)", 5, 1).tells("houses(1)", 20, 1);
        long sum = 0;
        long last = 0;
        long before = 0;
        for (int n = 0; n <= 20; n++) {
            long want = n == 0 ? 5 : n == 1 ? 15 : 3 * last - before;
            sum += want;
            run.tells("houses(" + n + ")", sum, 1);
            before = last;
            last = want;
        }
        run.bad("houses(-1)", "houses(21)", "houses(max)", "houses(min)").is("upper()", sum).is("lower()", 1);
    }

    /** upper(), lower() are told by six calls alone, and stay behind all others. */
    private static void toldLast() {
        Run run = run("told last").is("upper()", 0).is("lower()", 1).bad("ring(31)", "edge(-1)", "ways(6, 0)");
        run.is("upper()", 0).is("lower()", 1).tells("edge(3)", 40, 61);
        run.bad("ring(31)", "within(-1)", "edge(31)", "beyond(0, 21)", "houses(21)", "ways(0, 6)", "ways(10, 0)");
        run.is("upper()", 40).is("lower()", 61).row(0, 1, 2, 3).town("w0 s1");
        run.then("between(0, 12)", "far(0, 12)", "mean(0)", "walk(0)", "post(0)", "held(0)", "drunk(5, 5)",
            "meet(0, 1)",
            "hours(3)", "keep(0)", "town(0)", "thin(0, 12, 3)", "lies(0, 12, 1)", "digest()", "tear(5)");
        run.is("upper()", 40).is("lower()", 61).tells("ways(0, 12)", 2, 1).tells("edge(2)", 5, 7)
            .tells("ring(0)", 1, 1);
        run.tells("edge(1)", 5, 6).tells("beyond(0, 0)", 1, 1).tells("edge(1)", 5, 6).tells("houses(0)", 5, 1);
        run.tells("edge(1)", 5, 6).tells("within(1)", 6, 1).tells("edge(1)", 5, 6).tells("ways(0, 0)", 1, 1);
    }
}
