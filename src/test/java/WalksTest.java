/** Promises 36 to 43, 46, 47: walks by rows, rounds, posts, fires, lots. */
public final class WalksTest {
    private static final int NOTHING = 1, UNLIKE = 3, SIZE = 5;
    private static final Due DUE = new Due();

    public static void main(String[] args) {
        walks();
        longWalks();
        rounds();
        posts();
        fires();
        idle();
        refusals();
        drunk();
        DUE.end();
    }

    private static void fill(WideTown x, int r, int... places) {
        x.row(r, places.length);
        for (int i = 0; i < places.length; i++) {
            x.lay(r, i, places[i]);
        }
    }

    private static void is(WideTown x, String call, int got, int want, int asked) {
        DUE.is(call, got, want);
        DUE.is(call + ": asked()", x.asked(), asked);
    }

    private static void walks() {
        WideTown x = new WideTown();
        x.row(0, 0);
        is(x, "walk of none", x.walk(0), 0, 0);
        is(x, "reaches of none", x.reaches(0), 0, 0);
        DUE.is("sees of none", x.sees(0), 1);
        fill(x, 1, 1, 0, 3, 3, 2);
        is(x, "walk(1)", x.walk(1), 123, 2);
        is(x, "reaches(1)", x.reaches(1), 3, 3);
        DUE.is("sees(1)", x.sees(1), 5);
        fill(x, 1, 0, 1, 0, 1, 2, 2, 4, 4);
        is(x, "a round of a house and more", x.walk(1), 0, 8);
        is(x, "its reach", x.reaches(1), 2, 2);
        DUE.is("what it sees", x.sees(1), 6);
    }

    private static void longWalks() {
        WideTown x = new WideTown();
        x.row(0, 40);
        for (int i = 0; i < 40; i++) {
            x.lay(0, i, i % 2 * 2);
        }
        DUE.is("walk of 40", x.walk(0), WideTown.SPENT);
        is(x, "reaches of 40", x.reaches(0), 40, 40);
        DUE.is("sees of 40", x.sees(0), 41);
        for (int i = 20; i < 40; i++) {
            x.lay(0, i, (39 - i) % 2 * 2);
        }
        is(x, "there and back", x.walk(0), 0, 40);
        is(x, "its reach", x.reaches(0), 20, 20);
        DUE.is("what it sees", x.sees(0), 21);
        x.lay(0, 39, 5);
        DUE.is("no street ahead of SPENT", x.walk(0), WideTown.FINDING);
        fill(x, 1, 0, 2, 0, 2, 0, 2, 0, 2, 0, 2);
        x.at(1, 1);
        is(x, "walk of 10", x.walk(1), WideTown.SPENT, 2);
        fill(x, 1, 0, 2, 0, 2, 0, 2, 0, 2, 0);
        is(x, "walk of 9", x.walk(1), 131313131, 0);
    }

    private static void rounds() {
        WideTown x = new WideTown();
        x.row(0, 0);
        x.row(1, 5);
        DUE.is("round of none", x.round(0, 1), 0);
        DUE.is("the order of none", x.at(1, 0), WideTown.FINDING);
        fill(x, 0, 131, 24, 13, 1313);
        DUE.is("round(0, 3)", x.round(0, 3), 12);
        order(x, 3, 0, 3, 2, 1);
        DUE.is("round(0, 0)", x.round(0, 0), 12);
        order(x, 0, 0, 3, 2, 1);
        fill(x, 0, 5, 3, 1, 4, 2, 0);
        DUE.is("a round about", x.round(0, 5), 10);
        order(x, 5, 0, 1, 2, 3, 4, 5);
        fill(x, 0, 21, 12, 1212, 1);
        DUE.is("a round with alike ones", x.round(0, 2), 4);
        order(x, 2, 0, 1, 3, 2);
    }

    private static void order(WideTown x, int r, int... places) {
        for (int i = 0; i < places.length; i++) {
            is(x, "place " + i + " of the order", x.at(r, i), 1, places[i]);
        }
        DUE.is("the order's size", x.at(r, places.length), WideTown.FINDING);
    }

    private static void posts() {
        WideTown x = new WideTown();
        x.row(0, 0);
        is(x, "post of none", x.post(0), 0, 0);
        fill(x, 0, 131313131);
        is(x, "post no farther than 3", x.post(0), 131, 6);
        fill(x, 0, 12, 12);
        is(x, "post by a code", x.post(0), 12, 0);
        fill(x, 0, 21, 0);
        is(x, "of alike ones the nearest", x.post(0), 0, 2);
        fill(x, 0, 1, 2);
        is(x, "of alike ones the nearest", x.post(0), 0, 2);
        fill(x, 0, 13, 14);
        is(x, "of alike ones the nearest", x.post(0), 1, 2);
        fill(x, 0, 12, 12, 45, 45);
        is(x, "of alike ones the nearest", x.post(0), 0, 8);
        fill(x, 0, 123, 134);
        // 13 has both one street off, and no nearer one has
        is(x, "post(0)", x.post(0), 13, 2);
        fill(x, 0, 123451234);
        // 123, 124 are both on shortest ways, 6 from there
        is(x, "of alike ones the first code", x.post(0), 123, 6);
        x.row(0, 20);
        is(x, "post of 20", x.post(0), 0, 0);
    }

    private static void fires() {
        WideTown x = new WideTown();
        x.row(0, 0);
        int[] free = {1, 6, 21, 61, 166};
        for (int n = 0; n <= 4; n++) {
            DUE.is("burns(0, " + n + ")", x.burns(0, n), free[n]);
        }
        is(x, "held(0)", x.held(0), 0, 166);
        fill(x, 0, 0, 0);
        DUE.is("HOME burns anyhow", x.burns(0, 4), 166);
        fill(x, 0, 1, 2, 3, 4, 5);
        is(x, "held by 5", x.held(0), 1, 1);
        fill(x, 0, 212, 2, 344, 33544, 55511115);
        is(x, "not held by 3 of 5", x.held(0), 0, x.burns(0, 4));
        fill(x, 0, 212, 323232232, 344, 454, 33455);
        is(x, "held by 5 in other words", x.held(0), 1, 1);
        fill(x, 0, 1, 2, 3, 4, 51, 52, 53, 54);
        // 5 burns, then it is held: 15 and 45 are 51 and 54
        is(x, "held by 8", x.held(0), 1, 2);
        DUE.is("burns behind 1", x.burns(0, 1), 2);
        fill(x, 0, 1, 2, 3, 4, 51, 52, 53);
        is(x, "not held by 7", x.held(0), 0, x.burns(0, 4));
        fill(x, 0, 131313131, 12345);
        DUE.is("guards too far off", x.burns(0, 4), 166);
        fill(x, 0, 1, 2);
        // of the 40 that are 3 off, 13 have shortest ways by 1 or 2 alone
        DUE.is("two guards, 3 hours", x.burns(0, 3), 1 + 3 + 10 + 27);
    }

    private static void idle() {
        WideTown x = new WideTown();
        x.row(0, 0);
        DUE.is("idle of none", x.idle(0), WideTown.NONE);
        fill(x, 0, 1, 2, 3, 4, 5);
        x.at(0, 4);
        DUE.is("idle(0)", x.idle(0), WideTown.NONE);
        DUE.is("asked() behind idle", x.asked(), 5);
        fill(x, 0, 1, 2, 3, 4, 5, 13, 24);
        DUE.is("idle behind others", x.idle(0), 5);
        fill(x, 0, 1, 3, 1, 0);
        DUE.is("idle: twice", x.idle(0), 0);
        fill(x, 0, 1, 3, 0);
        DUE.is("idle at HOME", x.idle(0), 2);
        fill(x, 0, 1, 13131, 0);
        DUE.is("idle far off", x.idle(0), 1);
    }

    private static void refused(WideTown x, String call, int got, int f) {
        DUE.is(call, got, WideTown.FINDING);
        DUE.is(call + ": finding()", x.finding(), f);
    }

    private static void refusals() {
        WideTown x = new WideTown();
        for (int no = -1; no <= 6; no += 7) {
            DUE.is("walk(" + no + ")", x.walk(no), WideTown.BAD);
            DUE.is("reaches(" + no + ")", x.reaches(no), WideTown.BAD);
            DUE.is("sees(" + no + ")", x.sees(no), WideTown.BAD);
            DUE.is("round(" + no + ", 0)", x.round(no, 0), WideTown.BAD);
            DUE.is("round(0, " + no + ")", x.round(0, no), WideTown.BAD);
            DUE.is("post(" + no + ")", x.post(no), WideTown.BAD);
            DUE.is("burns(" + no + ", 1)", x.burns(no, 1), WideTown.BAD);
            DUE.is("held(" + no + ")", x.held(no), WideTown.BAD);
            DUE.is("idle(" + no + ")", x.idle(no), WideTown.BAD);
        }
        DUE.is("burns(0, 5)", x.burns(0, 5), WideTown.BAD);
        DUE.is("burns(0, -1)", x.burns(0, -1), WideTown.BAD);
        refused(x, "walk(0)", x.walk(0), NOTHING);
        refused(x, "reaches(0)", x.reaches(0), NOTHING);
        refused(x, "sees(0)", x.sees(0), NOTHING);
        refused(x, "round(0, 0)", x.round(0, 0), NOTHING);
        refused(x, "post(0)", x.post(0), NOTHING);
        refused(x, "burns(0, 1)", x.burns(0, 1), NOTHING);
        refused(x, "held(0)", x.held(0), NOTHING);
        refused(x, "idle(0)", x.idle(0), NOTHING);
        for (int no : new int[] {-1, 5}) {
            fill(x, 0, 0, no);
            refused(x, "walk by " + no, x.walk(0), UNLIKE);
            refused(x, "reaches by " + no, x.reaches(0), UNLIKE);
            refused(x, "sees by " + no, x.sees(0), UNLIKE);
        }
        for (int no : new int[] {-1, 6, 10, 555555556}) {
            fill(x, 0, 1, no);
            refused(x, "round by " + no, x.round(0, 1), UNLIKE);
            refused(x, "post by " + no, x.post(0), UNLIKE);
            refused(x, "burns by " + no, x.burns(0, 1), UNLIKE);
            refused(x, "held by " + no, x.held(0), UNLIKE);
            refused(x, "idle by " + no, x.idle(0), UNLIKE);
        }
        DUE.is("count(6): no row came of what was refused", x.count(6), 1);
        x.row(0, 7);
        x.lay(0, 0, -1);
        refused(x, "round of 7", x.round(0, 1), SIZE);
        x.row(0, 21);
        x.lay(0, 0, -1);
        refused(x, "post of 21", x.post(0), SIZE);
        refused(x, "burns of 21", x.burns(0, 1), SIZE);
        refused(x, "held of 21", x.held(0), SIZE);
        refused(x, "idle of 21", x.idle(0), SIZE);
        x.row(0, 20);
        DUE.is("burns of 20", x.burns(0, 1), 6);
        DUE.is("idle of 20", x.idle(0), 0);
    }

    private static void drunk() {
        WideTown x = new WideTown();
        DUE.is("drunk(0, 1)", x.drunk(0, 1), WideTown.BAD);
        DUE.is("drunk(61, 1)", x.drunk(61, 1), WideTown.BAD);
        DUE.is("drunk(1, 0)", x.drunk(1, 0), WideTown.BAD);
        DUE.is("drunk(1, -1)", x.drunk(1, -1), WideTown.BAD);
        DUE.is("drunk(1, 2147483647)", x.drunk(1, Integer.MAX_VALUE), WideTown.BAD);
        // 48271 and 2147483647 - 48271, modulo 5
        is(x, "drunk(1, 1)", x.drunk(1, 1), 2, 0);
        is(x, "drunk(1, 2147483646)", x.drunk(1, 2147483646), 2, 0);
        for (int seed = 1; seed < 300; seed++) {
            long lot = seed;
            String here = "";
            int home = 0;
            for (int n = 1; n <= 60; n++) {
                lot = lot * 48271 % 2147483647;
                String next = Crossings.plain(here + (char) ('1' + lot % 5));
                here = next.length() > 9 ? here : next;
                home += here.isEmpty() ? 1 : 0;
                if (n % 7 == 4) {
                    int code = here.isEmpty() ? 0 : Integer.parseInt(here);
                    is(x, "drunk(" + n + ", " + seed + ")", x.drunk(n, seed), code, home);
                }
            }
        }
    }
}
