/** Promises 10 to 19, 44, 45, 50, 53: towns by texts, walkers, hours, kept towns, who meets. */
public final class WalkersTest {
    private static final int NOTHING = 1, UNLIKE = 3;
    private static final Due DUE = new Due();

    public static void main(String[] args) {
        faults();
        towns();
        kindsOfSteps();
        edgeOfTown();
        marks();
        standAndHead();
        hours();
        undo();
        keepAndOn();
        meet();
        part();
        counts();
        digest();
        DUE.end();
    }

    private static void write(WideTown x, int t, String signs) {
        x.text(t, signs.length());
        for (int i = 0; i < signs.length(); i++) {
            x.put(t, i, signs.charAt(i));
        }
    }

    private static WideTown town(String signs) {
        WideTown x = new WideTown();
        write(x, 0, signs);
        DUE.that("a town of '" + signs + "'", x.town(0) >= 0);
        return x;
    }

    private static int fact(WideTown x, int i, int what) {
        DUE.is("walker(" + i + ", " + what + ")", x.walker(i, what), 1);
        return x.asked();
    }

    /** The codes where a walker is behind each hour, 1 hour at a time. */
    private static void goes(String signs, int... codes) {
        WideTown x = town(signs);
        for (int k = 0; k < codes.length; k++) {
            x.hours(1);
            DUE.is("'" + signs + "' behind hour " + k, fact(x, 0, 1), codes[k]);
        }
    }

    private static void faultIs(String signs, int want) {
        WideTown x = new WideTown();
        write(x, 1, signs);
        DUE.is("fault of '" + signs + "'", x.fault(1), want);
        if (want != WideTown.NONE) {
            DUE.is("town of '" + signs + "'", x.town(1), WideTown.STATE);
            DUE.is("finding() behind STATE", x.finding(), 0);
        }
    }

    private static void faults() {
        faultIs("", WideTown.NONE);
        faultIs("   ", WideTown.NONE);
        faultIs("w0", WideTown.NONE);
        faultIs("  w0 s41234  c3 ", WideTown.NONE);
        faultIs("w0s1c2h3r4", WideTown.NONE);
        faultIs("w0 s1 c2 h3 r4 o0", 15);
        faultIs("w0 s1 c2 h3 r4 x", 15);
        faultIs("w", 1);
        faultIs("w0 s", 4);
        faultIs("w ", 1);
        faultIs("w5", 1);
        faultIs("ww0", 1);
        faultIs("w01234", WideTown.NONE);
        faultIs("w012340", 6);
        faultIs("w012345", 6);
        faultIs("w05", 2);
        faultIs("w0/", 2);
        faultIs("0", 0);
        faultIs(" w0 1", 4);
        faultIs("W0", 0);
        faultIs("a0", 0);
        faultIs("w0\tw0", 2);

        WideTown x = new WideTown();
        DUE.is("fault(0) of no text", x.fault(0), WideTown.FINDING);
        DUE.is("finding()", x.finding(), NOTHING);
        DUE.is("fault(4)", x.fault(4), WideTown.BAD);
        DUE.is("fault(-1)", x.fault(-1), WideTown.BAD);
    }

    private static void towns() {
        WideTown x = town("w4 s31 c20 h13021 r01234 ");
        DUE.is("count(0)", x.count(0), 5);
        int[][] facts = {{0, 0, 4, 0, 0}, {1, 2, 3, 0, 1}, {2, 1, 2, 0, 1}, {3, 4123, 1, 0, 4}, {4, 2345, 0, 0, 4}};
        for (int i = 0; i < 5; i++) {
            for (int what = 0; what < 5; what++) {
                DUE.is("fact " + i + ", " + what, fact(x, i, what), facts[i][what]);
            }
        }
        DUE.is("walker(5, 0)", x.walker(5, 0), WideTown.BAD);
        DUE.is("walker(-1, 0)", x.walker(-1, 0), WideTown.BAD);
        DUE.is("walker(0, 5)", x.walker(0, 5), WideTown.BAD);
        DUE.is("walker(0, -1)", x.walker(0, -1), WideTown.BAD);
        x.hours(3);
        x.keep(1);
        DUE.is("town(3) of no text", x.town(3), WideTown.FINDING);
        DUE.is("finding()", x.finding(), NOTHING);
        DUE.is("town(4)", x.town(4), WideTown.BAD);
        DUE.is("count(1) behind what was refused", x.count(1), 3);
        DUE.is("count(5) behind what was refused", x.count(5), 1);
        write(x, 2, "o300");
        DUE.is("town(2)", x.town(2), 1);
        DUE.is("anew: the hour", x.count(1), 0);
        DUE.is("anew: kept towns", x.count(5), 0);
        DUE.is("anew: a word that leads home", fact(x, 0, 1), 0);
        DUE.is("anew: on(1)", x.on(1), WideTown.FINDING);
        x.text(2, 9);
        DUE.is("town(2) of none", x.town(2), 0);
        DUE.is("walker(0, 0) of none", x.walker(0, 0), WideTown.BAD);
        DUE.is("hours(0) of none", x.hours(0), WideTown.STATE);
    }

    private static void kindsOfSteps() {
        goes("w3", 4, 0, 4, 0);
        goes("s3", 4, 41, 414, 4141);
        goes("s0", 1, 13, 131);
        goes("c4", 5, 15, 1, 0, 5);
        goes("c2", 3, 34, 4, 0);
        goes("o3", 4, 45, 415, 4152, 41523, 415234);
        goes("h41302", 241, 24, 2, 0, 0);
        goes("h201", 2, 0, 0);
        goes("r2", 35, 3535, 353535, 35353535);
        WideTown x = town("h41302 r2 w0");
        x.hours(6);
        DUE.is("streets of a homer", fact(x, 0, 3), 4);
        DUE.is("the heading of a homer stays", fact(x, 0, 2), 4);
        DUE.is("the heading of a walker", fact(x, 2, 2), 0);
        DUE.is("streets of a walker", fact(x, 2, 3), 6);
    }

    private static void edgeOfTown() {
        WideTown x = town("r2 s0 w1 o3");
        x.hours(4);
        DUE.is("a runner behind 4 hours", fact(x, 0, 1), 35353535);
        x.hours(1);
        // the ninth street is gone, the tenth not: the heading turns as if gone, so it comes back
        DUE.is("a runner behind 5 hours", fact(x, 0, 1), 353535353);
        DUE.is("its heading", fact(x, 0, 2), 2);
        DUE.is("its streets", fact(x, 0, 3), 9);
        x.hours(1);
        DUE.is("a runner behind 6 hours", fact(x, 0, 1), 35353535 / 10);
        DUE.is("its streets", fact(x, 0, 3), 11);
        x.hours(3);
        DUE.is("a straight one behind 9 hours", fact(x, 1, 1), 131313131);
        x.hours(1);
        DUE.is("a straight one behind 10 hours", fact(x, 1, 1), 131313131);
        DUE.is("its streets", fact(x, 1, 3), 9);
        DUE.is("its heading", fact(x, 1, 2), 0);
        x.hours(1);
        DUE.is("a straight one behind 11 hours", fact(x, 1, 4), 8);
        x.stand(2, 131313131);
        x.hours(1);
        DUE.is("a walker whose street leads on", fact(x, 2, 1), 131313131);
        x.head(2, 0);
        x.hours(1);
        DUE.is("a walker whose street leads back", fact(x, 2, 1), 13131313);
    }

    private static void marks() {
        WideTown x = town("w0 s4 c1 h13 r302");
        int[][] due = {{-3, -3, -3, -3, -3}, {1, -3, -3, -3, -3}, {-3, 0, -3, -3, -3}, {-3, -3, 1, -3, -3},
            {0, -3, -3, 4, -3}};
        for (int i = 0; i < 5; i++) {
            for (int kind = 1; kind <= 5; kind++) {
                DUE.is("mark(" + i + ", " + kind + ")", x.mark(i, kind), due[i][kind - 1]);
            }
        }
        DUE.is("finding()", x.finding(), UNLIKE);
        DUE.is("findings(3)", x.findings(UNLIKE), 20);
        DUE.is("mark(1, 0)", x.mark(1, 0), WideTown.BAD);
        DUE.is("mark(1, 6)", x.mark(1, 6), WideTown.BAD);
        DUE.is("mark(1, -1)", x.mark(1, -1), WideTown.BAD);
        DUE.is("mark(5, 1)", x.mark(5, 1), WideTown.BAD);
        long before = x.digest();
        x.mark(2, 2);
        x.mark(4, 4);
        x.mark(1, 1);
        DUE.is("marks change nothing", x.digest(), before);
        x.hours(1);
        DUE.is("mark of a straight one that has turned", x.mark(1, 1), 4);
        x.stand(3, 512);
        DUE.is("mark of a homer with two ways", x.mark(3, 3), 2);
        x.stand(3, 0);
        DUE.is("mark of a homer at home", x.mark(3, 3), 0);
        x.stand(4, 353535353);
        x.head(4, 4);
        DUE.is("mark of a runner at the edge that stays", x.mark(4, 4), 9);
        x.head(4, 0);
        DUE.is("mark of a runner at the edge", x.mark(4, 4), 8);
        WideTown y = town("o012 w012 w021 o3 c0");
        DUE.is("mark of a lost one: others", y.mark(0, 5), 2);
        DUE.is("mark of a lost one alone", y.mark(3, 5), 1);
        DUE.is("mark of a lost one: how far", y.mark(0, 2), 4);
        DUE.is("mark of a circler that is no lost one", y.mark(4, 5), WideTown.FINDING);
    }

    private static void standAndHead() {
        WideTown x = town("s1 c2");
        DUE.is("stand(0, 21)", x.stand(0, 21), 0);
        DUE.is("stand(0, 555555555)", x.stand(0, 555555555), 12);
        DUE.is("stand(0, 0)", x.stand(0, 0), 5);
        DUE.is("stand(0, 6)", x.stand(0, 6), WideTown.BAD);
        DUE.is("stand(0, 10)", x.stand(0, 10), WideTown.BAD);
        DUE.is("stand(0, -1)", x.stand(0, -1), WideTown.BAD);
        DUE.is("stand(0, 1111111111)", x.stand(0, 1111111111), WideTown.BAD);
        DUE.is("stand(2, 1)", x.stand(2, 1), WideTown.BAD);
        x.hours(1);
        DUE.is("the heading has turned", fact(x, 0, 2), 3);
        DUE.is("head(0, 4)", x.head(0, 4), 3);
        x.hours(1);
        DUE.is("by turns from it on", fact(x, 0, 2), 1);
        DUE.is("head(1, 0)", x.head(1, 0), 2);
        x.hours(1);
        DUE.is("by turns from it on, a circler", fact(x, 1, 2), 1);
        DUE.is("head(0, 5)", x.head(0, 5), WideTown.BAD);
        DUE.is("head(0, -1)", x.head(0, -1), WideTown.BAD);
        DUE.is("head(2, 0)", x.head(2, 0), WideTown.BAD);
    }

    private static void hours() {
        WideTown x = new WideTown();
        DUE.is("hours(1) without walkers", x.hours(1), WideTown.STATE);
        DUE.is("hours(21) without walkers", x.hours(21), WideTown.BAD);
        x = town("w0");
        DUE.is("hours(-1)", x.hours(-1), WideTown.BAD);
        DUE.is("hours(21)", x.hours(21), WideTown.BAD);
        DUE.is("hours(0)", x.hours(0), 0);
        DUE.is("hours(20)", x.hours(20), 20);
        DUE.is("hours(20)", x.hours(20), 40);
        DUE.is("hours(19)", x.hours(19), 59);
        DUE.is("hours(2)", x.hours(2), WideTown.FULL);
        DUE.is("hours(1)", x.hours(1), 60);
        DUE.is("hours(0)", x.hours(0), 60);
        DUE.is("hours(1)", x.hours(1), WideTown.FULL);
        DUE.is("streets in all", fact(x, 0, 3), 60);
        DUE.is("undo(0)", x.undo(0), 60);
        DUE.is("streets behind undo(0)", fact(x, 0, 3), 0);
    }

    private static void undo() {
        WideTown x = new WideTown();
        DUE.is("undo(0) of none", x.undo(0), 0);
        DUE.is("undo(1) of none", x.undo(1), WideTown.BAD);
        x = town("s0 w1");
        x.hours(2);
        x.stand(0, 4);
        x.head(1, 3);
        DUE.is("undo(2)", x.undo(2), 0);
        DUE.is("of none all stays", fact(x, 0, 1), 4);
        x.hours(2);
        x.stand(0, 5);
        DUE.is("undo(2)", x.undo(2), 2);
        DUE.is("stand ahead of the hour stays", fact(x, 0, 1), 4);
        DUE.is("head ahead of the hour stays", fact(x, 1, 2), 3);
        DUE.is("undo(1)", x.undo(1), 1);
        DUE.is("stand since is undone", fact(x, 0, 1), 1);
        DUE.is("head since is undone", fact(x, 1, 2), 1);
        DUE.is("turns are undone", fact(x, 0, 2), 2);
        DUE.is("streets are undone", fact(x, 0, 3), 1);
        DUE.is("undo(2) behind hour 1", x.undo(2), WideTown.BAD);
        DUE.is("undo(-1)", x.undo(-1), WideTown.BAD);
        DUE.is("hours(2)", x.hours(2), 3);
        DUE.is("gone on from there", fact(x, 0, 1), 131);
    }

    private static void keepAndOn() {
        WideTown x = new WideTown();
        DUE.is("keep(0) without walkers", x.keep(0), WideTown.STATE);
        DUE.is("keep(3) without walkers", x.keep(3), WideTown.BAD);
        DUE.is("on(0) of none", x.on(0), WideTown.FINDING);
        DUE.is("finding()", x.finding(), NOTHING);
        x = town("r2 c0");
        x.hours(2);
        DUE.is("keep(2)", x.keep(2), 2);
        long before = x.digest();
        x.hours(5);
        x.undo(1);
        x.stand(0, 5);
        x.hours(3);
        DUE.is("keep(0)", x.keep(0), 4);
        DUE.is("count(5)", x.count(5), 2);
        DUE.is("on(2)", x.on(2), 2);
        DUE.is("where it was kept", fact(x, 0, 1), 3535);
        DUE.is("on(0)", x.on(0), 4);
        DUE.is("on(2) again", x.on(2), 2);
        DUE.is("undo(1) of a kept town", x.undo(1), 1);
        DUE.is("its own hours", fact(x, 0, 1), 35);
        DUE.is("on(2), still kept", x.on(2), 2);
        DUE.that("another digest, by the second kept town", x.digest() != before);
        DUE.is("on(1)", x.on(1), WideTown.FINDING);
        DUE.is("on(3)", x.on(3), WideTown.BAD);
        DUE.is("on(-1)", x.on(-1), WideTown.BAD);
        DUE.is("keep(-1)", x.keep(-1), WideTown.BAD);
        x.keep(0);
        x.hours(1);
        DUE.is("on(0), kept anew", x.on(0), 2);
    }

    private static void meet() {
        WideTown x = town("w0 h0012 w1 s2 w01");
        long before = x.digest();
        DUE.is("meet(0, 2)", x.meet(0, 2), 0);
        DUE.is("asked()", x.asked(), 0);
        DUE.is("meet(1, 2)", x.meet(1, 2), 4);
        DUE.is("asked()", x.asked(), 0);
        DUE.is("meet(2, 1)", x.meet(2, 1), 4);
        DUE.is("asked() of another order", x.asked(), 0);
        DUE.is("meet(2, 4)", x.meet(2, 4), WideTown.NONE);
        DUE.is("asked() behind NONE", x.asked(), 0);
        DUE.is("meet(0, 0)", x.meet(0, 0), WideTown.BAD);
        DUE.is("meet(0, 5)", x.meet(0, 5), WideTown.BAD);
        DUE.is("meet(-1, 0)", x.meet(-1, 0), WideTown.BAD);
        DUE.is("meet changes nothing", x.digest(), before);
        WideTown y = town("r22 h0 c0 w202");
        DUE.is("behind an hour, not within", y.meet(0, 1), 10);
        DUE.is("asked()", y.asked(), 0);
        DUE.is("meet(2, 3)", y.meet(2, 3), 1);
        DUE.is("asked()", y.asked(), 1);
        y.hours(20);
        y.hours(20);
        y.hours(11);
        DUE.is("hour 60 may be passed aside", y.part(0, 1, 40), 9);
        DUE.is("the hour", y.count(1), 51);
        WideTown z = town("s33 c30");
        DUE.is("meet(0, 1) at last", z.meet(0, 1), 40);
        DUE.is("asked()", z.asked(), 1);
        z = town("s4414 c22");
        DUE.is("meet(0, 1) too late", z.meet(0, 1), WideTown.NONE);
        z.hours(1);
        DUE.is("meet(0, 1) an hour on", z.meet(0, 1), 40);
    }

    private static void part() {
        WideTown x = town("s0 s1 w0");
        long before = x.digest();
        DUE.is("part(0, 1, 0)", x.part(0, 1, 0), 0);
        DUE.is("part(0, 1, 1)", x.part(0, 1, 1), 2);
        DUE.is("part(0, 1, 2)", x.part(0, 1, 2), 4);
        DUE.is("part(0, 1, 9)", x.part(0, 1, 9), 18);
        DUE.is("part(1, 2, 1)", x.part(1, 2, 1), 2);
        DUE.is("part(0, 2, 1)", x.part(0, 2, 1), 0);
        DUE.is("part(0, 1, 40)", x.part(0, 1, 40), x.part(1, 0, 40));
        DUE.is("part(0, 1, 41)", x.part(0, 1, 41), WideTown.BAD);
        DUE.is("part(0, 1, -1)", x.part(0, 1, -1), WideTown.BAD);
        DUE.is("part(1, 1, 1)", x.part(1, 1, 1), WideTown.BAD);
        DUE.is("part(3, 1, 1)", x.part(3, 1, 1), WideTown.BAD);
        DUE.is("part changes nothing", x.digest(), before);
    }

    private static void counts() {
        WideTown x = town("s0 r1 c2 o3 s40");
        x.row(0, 0);
        x.row(3, 1);
        x.text(3, 0);
        x.hours(2);
        x.undo(1);
        x.keep(1);
        int[] due = {5, 1, 3, 2, 0, 1, 2, 2};
        for (int what = 0; what < 8; what++) {
            DUE.is("count(" + what + ")", x.count(what), due[what]);
        }
        x.undo(0);
        DUE.is("count(4) at first", x.count(4), 4);
        DUE.is("count(8)", x.count(8), WideTown.BAD);
        DUE.is("count(-1)", x.count(-1), WideTown.BAD);
    }

    private static void digest() {
        WideTown x = town("s31");
        x.hours(1);
        x.keep(1);
        x.row(4, 2);
        x.lay(4, 1, -7);
        x.put(0, 2, 200);
        int[] told = {1, 1, 1, 0, 0, 1, 1, 1, 1, 24, 0, 1, 2, -1, 1, -1, -1, -1, -1, -1, 2, 0, -7, -1,
            3, 115, 51, -56, -1, -1, -1};
        long h = 17;
        for (int v : told) {
            h = 31 * h + v;
        }
        int asked = x.asked();
        DUE.is("digest()", x.digest(), h);
        DUE.is("asked() behind digest()", x.asked(), asked);
    }
}
