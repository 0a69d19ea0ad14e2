/** Promises 12 to 19, 44, 45, 50, 53 at their bounds: HEADINGS round modulo 5, 9 from HOME, HOUR 60, kept TOWNS. */
public final class TownBoundsTest {
    private static final int NONE = WideTown.NONE;
    private static final Due DUE = new Due();
    private static final String LETTERS = "wschro";

    public static void main(String[] args) {
        whoIsThere();
        headingsRound();
        headingsByHead();
        marksOfKinds();
        marksRound();
        marksAtTheEdge();
        homers();
        standing();
        stayingAtTheEdge();
        runnersAtTheEdge();
        hoursAtOnce();
        hourSixty();
        undoing();
        undoingAtTheEnds();
        keeping();
        goingOnAtHourSixty();
        keptHours();
        meeting();
        parting();
        counting();
        digests();
        DUE.end();
    }

    private static Run run(String name) {
        return new Run(DUE, name);
    }

    private static void whoIsThere() {
        for (int n = 1; n <= 5; n++) {
            Run run = run(n + " walkers").town("w0".repeat(n));
            String last = "(" + (n - 1) + ", ";
            String none = "(" + n + ", ";
            run.is("count(0)", n);
            for (int what = 0; what <= 4; what++) {
                run.is("walker" + last + what + ")", 1).is("walker(0, " + what + ")", 1);
                run.bad("walker" + none + what + ")", "walker(-1, " + what + ")");
            }
            run.bad("walker(0, 5)", "walker(0, -1)", "walker" + last + "5)", "walker" + last + "-1)");
            run.is("stand" + last + "0)", 0).bad("stand" + none + "0)", "stand(-1, 0)");
            run.is("head" + last + "0)", 0).bad("head" + none + "0)", "head(-1, 0)");
            run.finds(Run.UNLIKE, "mark" + last + "1)").bad("mark" + none + "1)", "mark(-1, 1)");
            run.bad("meet(0, " + n + ")", "meet" + none + "0)", "meet(0, -1)", "meet(-1, 0)", "meet(0, 0)");
            run.bad("part(0, " + n + ", 0)", "part" + none + "0, 0)", "part(0, -1, 0)", "part(-1, 0, 0)",
                "part(0, 0, 0)");
            if (n > 1) {
                run.is("meet(0, " + (n - 1) + ")", 0).is("part" + last + "0, 0)", 0);
            }
        }
    }

    /** Each KIND from each HEADING on: the HEADING behind 1 .. 6 HOURS. */
    private static void headingsRound() {
        for (int kind = 0; kind <= 5; kind++) {
            for (int h = 0; h <= 4; h++) {
                Run run = run("headings of " + LETTERS.charAt(kind) + h).town(LETTERS.substring(kind, kind + 1) + h);
                for (int k = 0; k <= 6; k++) {
                    run.walker(0, 2, headingBehind(kind, h, k)).then("hours(1)");
                }
            }
        }
    }

    private static int headingBehind(int kind, int h, int k) {
        switch (kind) {
            case 1:
                return k % 2 == 1 ? (h + 2) % 5 : h;
            case 2:
                return k % 2 == 1 ? (h + 1) % 5 : h;
            case 5:
                return (h + k) % 5;
            default:
                // a WALKER's and a HOMER's stays, a RUNNER's turns twice in an HOUR
                return h;
        }
    }

    /** head() ahead of an even and of an odd HOUR: by turns from it on. */
    private static void headingsByHead() {
        for (int kind = 0; kind <= 5; kind++) {
            for (int h = 0; h <= 4; h++) {
                Run run = run("head of " + LETTERS.charAt(kind) + " to " + h)
                    .town(LETTERS.substring(kind, kind + 1) + "3");
                run.is("head(0, " + h + ")", 3).walker(0, 2, h).then("hours(1)")
                    .walker(0, 2, headingBehind(kind, h, 1));
                run.is("head(0, " + h + ")", headingBehind(kind, h, 1)).walker(0, 2, h);
                for (int k = 1; k <= 4; k++) {
                    run.then("hours(1)").walker(0, 2, headingBehind(kind, h, k));
                }
                // to what it is already: it is the first one by turns again
                run.then("undo(2)").is("head(0, " + headingBehind(kind, h, 1) + ")", headingBehind(kind, h, 1));
                run.then("hours(1)").walker(0, 2, headingBehind(kind, headingBehind(kind, h, 1), 1));
                run.bad("head(0, 5)", "head(0, -1)", "head(1, 0)", "head(-1, 0)");
            }
        }
    }

    private static void marksOfKinds() {
        Run run = run("marks of kinds").town("w0 s0 c0 h0 r0");
        int[][] is = {{0, 0, 0, 0, 0}, {1, 0, 0, 0, 0}, {0, 1, 0, 0, 0}, {0, 0, 1, 0, 0}, {1, 0, 0, 1, 0}};
        for (int i = 0; i < 5; i++) {
            for (int kind = 1; kind <= 5; kind++) {
                String call = "mark(" + i + ", " + kind + ")";
                if (is[i][kind - 1] == 1) {
                    DUE.that(call + " is told", run.does(call) >= 0);
                } else {
                    run.finds(Run.UNLIKE, call);
                }
            }
            run.bad("mark(" + i + ", 0)", "mark(" + i + ", 6)", "mark(" + i + ", -1)");
        }
        run = run("marks of a lost one").town("o0").bad("mark(0, 0)", "mark(0, 6)", "mark(1, 5)");
        run.finds(Run.UNLIKE, "mark(0, 1)", "mark(0, 3)", "mark(0, 4)").is("mark(0, 2)", 4).is("mark(0, 5)", 0);
        run.is("asked()", 0);
    }

    /** STRAIGHT ones and RUNNERS of each HEADING, CIRCLERS and LOST ones of each. */
    private static void marksRound() {
        for (int h = 0; h <= 4; h++) {
            Run run = run("marks round " + h).town("s" + h + " r" + h + " c" + h + " o" + h + " s" + h);
            run.then("hours(1)", "head(1, " + h + ")", "head(0, " + h + ")");
            run.is("mark(0, 1)", (h + 2) % 5).is("mark(1, 1)", (h + 2) % 5).is("mark(4, 1)", h);
            run.is("mark(2, 2)", 0).is("mark(3, 2)", 4).then("hours(1)").is("mark(2, 2)", 0).is("mark(3, 2)", 4);
            run.is("mark(0, 1)", h).is("mark(1, 1)", (h + 2) % 5).is("mark(4, 1)", (h + 2) % 5);
        }
        Run run = run("others").town("o0 o0 o0 o0 o0").is("mark(0, 5)", 4).is("mark(4, 5)", 4);
        run.then("stand(0, 11)").is("mark(0, 5)", 4).then("stand(0, 1)").is("mark(0, 5)", 0).is("mark(4, 5)", 3);
        run.then("stand(1, 121)", "stand(0, 2)").is("mark(0, 5)", 1);
    }

    private static void marksAtTheEdge() {
        Run run = run("marks at the edge").town("r0 c0 o0 s0 h0");
        // both STREETS lead back; the first one stays; both stay
        run.then("stand(0, 131313131)", "head(0, 0)").is("mark(0, 4)", 7);
        run.then("head(0, 3)").is("mark(0, 4)", 8).then("head(0, 2)").is("mark(0, 4)", 9).then("head(0, 4)");
        run.is("mark(0, 4)", 9).then("stand(0, 13131313)", "head(0, 0)").is("mark(0, 4)", 9);
        run.then("head(0, 2)").is("mark(0, 4)", 8).then("stand(0, 0)").is("mark(0, 4)", 2);
        run.then("stand(0, 131313131)", "head(0, 2)").is("mark(0, 1)", 4);
        // 4 STREETS as in HOURS: of 1, 2, 1, 2 the third one would lead to 10, of 2, 3, 2, 3 each
        run.then("stand(1, 131313131)", "head(1, 0)").is("mark(1, 2)", 1).then("head(1, 1)").is("mark(1, 2)", 0);
        // of 2, 3, 4, 5 each would, of 1, 2, 3, 4 none; from 8 of 3, 4, 5, 1 the last one
        run.then("stand(2, 131313131)", "head(2, 1)").is("mark(2, 2)", 0).then("head(2, 0)").is("mark(2, 2)", 4);
        run.then("stand(2, 13131313)", "head(2, 2)").is("mark(2, 2)", 3);
        // a HOMER at 9 with one way, with two
        run.then("stand(4, 131313131)").is("mark(4, 3)", 1).then("stand(4, 131313412)").is("mark(4, 3)", 2);
        run.then("stand(4, 0)").is("mark(4, 3)", 0);
        // calls between don't matter
        run.then("stand(4, 12)", "plain(131)").is("mark(4, 3)", 2).then("plain(0)").is("mark(4, 3)", 2);
    }

    private static void homers() {
        Run run = run("homers").town("h4").then("hours(20)").walker(0, 1, 0).walker(0, 2, 4).walker(0, 3, 0);
        run.then("stand(0, 131313131)", "hours(8)").walker(0, 1, 1).walker(0, 3, 8).walker(0, 4, 1);
        run.then("hours(1)").walker(0, 1, 0).walker(0, 3, 9).then("hours(1)").walker(0, 1, 0).walker(0, 3, 9);
        // the first STREET by numbers, not the one of the PLAIN WORD's end: 51 is 15
        run.then("stand(0, 15)", "hours(1)").walker(0, 1, 5).then("stand(0, 45)", "hours(1)").walker(0, 1, 5);
        run.walker(0, 2, 4);
    }

    private static void standing() {
        Run run = run("standing").town("w2 c1");
        run.is("stand(0, 555555555)", 0).is("stand(0, 131313131)", 5).is("stand(0, 513131313)", 131313131);
        run.is("stand(0, 111111111)", 153131313).walker(0, 1, 1).is("stand(0, 0)", 1).is("stand(0, 1)", 0);
        run.is("stand(0, 5)", 1).is("stand(0, 21)", 5).is("stand(0, 12)", 12);
        run.bad("stand(0, 6)", "stand(0, -1)", "stand(0, 10)", "stand(0, 555555556)", "stand(0, 1111111111)",
            "stand(0, 110111111)", "stand(0, max)", "stand(0, min)").walker(0, 1, 12);
        // neither the HEADING nor the turns nor the STREETS change
        run.then("hours(1)").walker(0, 2, 2).walker(1, 2, 2).walker(1, 3, 1).then("stand(1, 131313131)");
        run.walker(1, 2, 2).walker(1, 3, 1).walker(1, 4, 9).then("hours(1)").walker(1, 2, 1);
    }

    /** At 9 a STREET that leads on is not gone, but the HEADING turns as if gone. */
    private static void stayingAtTheEdge() {
        for (int kind = 0; kind <= 5; kind++) {
            if (kind == 3 || kind == 4) {
                continue;
            }
            Run run = run(LETTERS.charAt(kind) + " at the edge").town(LETTERS.substring(kind, kind + 1) + "3");
            run.then("stand(0, 131313131)", "hours(1)").walker(0, 1, 131313131).walker(0, 3, 0).walker(0, 4, 9);
            run.walker(0, 2, headingBehind(kind, 3, 1)).then("head(0, 2)", "hours(1)").walker(0, 1, 131313131);
            run.walker(0, 3, 0).walker(0, 2, headingBehind(kind, 2, 1));
            run.then("head(0, 0)", "hours(1)").walker(0, 1, 13131313).walker(0, 3, 1).walker(0, 4, 8);
            run.walker(0, 2, headingBehind(kind, 0, 1));
            // from 8 to 9 is gone
            run.then("head(0, 4)", "hours(1)").walker(0, 4, 9).walker(0, 3, 2).is("count(1)", 4);
            run.walker(0, 1, 131313135);
        }
    }

    private static void runnersAtTheEdge() {
        // the first STREET stays, the second one stays
        Run run = run("a runner that stays").town("r4").then("stand(0, 131313131)", "hours(1)");
        run.walker(0, 1, 131313131).walker(0, 3, 0).walker(0, 2, 4);
        // the first one stays, the second one goes
        run = run("a runner that turns back").town("r3").then("stand(0, 131313131)", "hours(1)");
        run.walker(0, 1, 13131313).walker(0, 3, 1).walker(0, 2, 3);
        // the first one goes, to 9; the second one stays
        run = run("a runner that comes to 9").town("r0").then("stand(0, 13131313)", "hours(1)");
        run.walker(0, 1, 131313131).walker(0, 3, 1).walker(0, 2, 0);
        // both go
        run = run("a runner from 7").town("r2").then("stand(0, 1313131)", "hours(1)");
        run.walker(0, 4, 9).walker(0, 3, 2).walker(0, 2, 2).walker(0, 1, 131313135);
    }

    private static void hoursAtOnce() {
        Run run = run("hours at once").town("w0").bad("hours(-1)", "hours(21)", "hours(max)", "hours(min)");
        run.is("hours(0)", 0).walker(0, 3, 0).is("hours(1)", 1).walker(0, 3, 1).is("hours(20)", 21).walker(0, 3, 21);
        run.is("hours(19)", 40).walker(0, 3, 40).is("count(1)", 40);
        run("no walkers").is("hours(0)", WideTown.STATE).is("hours(20)", WideTown.STATE).bad("hours(21)", "hours(-1)");
    }

    private static void hourSixty() {
        Run run = run("hour sixty").town("w0 s1 c2 o3 r4").then("hours(20)", "hours(20)");
        run.is("hours(20)", 60).is("count(1)", 60).is("hours(0)", 60);
        for (int n = 1; n <= 20; n++) {
            run.is("hours(" + n + ")", WideTown.FULL);
        }
        run.bad("hours(21)", "hours(-1)").walker(0, 3, 60).walker(2, 3, 60).is("finding()", 0);
        run.is("undo(60)", 0).bad("undo(61)").is("undo(59)", 1).is("hours(2)", WideTown.FULL).is("hours(1)", 60);
        run.is("undo(41)", 19).is("hours(20)", WideTown.FULL).is("count(1)", 41).is("hours(19)", 60);
        run.is("undo(40)", 20).is("hours(20)", 60).walker(0, 3, 60).is("undo(0)", 60).walker(0, 3, 0);
        // a RUNNER's STREETS in 60 HOURS
        run = run("a runner's hours").town("r4").then("hours(20)", "hours(20)", "hours(20)");
        int went = 0;
        int far = 0;
        boolean out = true;
        for (int k = 0; k < 120; k++) {
            // out 9, stays once, then the HEADING is the one it came by: back to HOME and out on the other side
            if (out && far == 9) {
                out = false;
                continue;
            }
            far += out ? 1 : -1;
            went++;
            out = out || far == 0;
        }
        run.walker(0, 3, went).walker(0, 4, far);
    }

    private static void undoing() {
        Run run = run("undoing").town("s0 c1").is("undo(0)", 0).bad("undo(1)", "undo(-1)");
        run.then("stand(0, 3)", "head(1, 4)", "hours(1)", "stand(0, 24)", "head(1, 0)", "hours(1)", "stand(1, 35)",
            "head(0, 3)");
        // of none all stays, what was done in this HOUR too
        run.is("undo(2)", 0).walker(1, 1, 35).walker(0, 2, 3).bad("undo(3)", "undo(max)", "undo(min)", "undo(-1)");
        run.walker(0, 1, 234).walker(0, 3, 2);
        // ahead of HOUR number 1: stand(), head() ahead of it stay, those since go
        run.is("undo(1)", 1).is("count(1)", 1).walker(0, 1, 24).walker(0, 2, 2).walker(1, 2, 0).walker(1, 1, 5);
        run.walker(0, 3, 1).bad("undo(2)").is("undo(1)", 0).walker(0, 1, 24);
        run.is("undo(0)", 1).walker(0, 1, 3).walker(0, 2, 0).walker(1, 2, 4).walker(1, 1, 0).walker(0, 3, 0);
        run.is("undo(0)", 0).walker(0, 1, 3).bad("undo(1)");
        // on from there by other ways: the HOURS that were undone don't come again
        run.then("stand(0, 5)", "hours(2)").is("undo(1)", 1).walker(0, 1, 15).is("undo(0)", 1).walker(0, 1, 5);
    }

    private static void undoingAtTheEnds() {
        Run run = run("undoing at the ends").town("o0").then("hours(20)", "hours(20)", "hours(20)");
        long[] place = new long[61];
        for (int n = 60; n >= 0; n--) {
            run.is("undo(" + n + ")", n == 60 ? 0 : 1).walker(0, 2, n % 5);
            place[n] = run.fact(0, 1);
        }
        DUE.is("where it was at first", place[0], 0);
        run = run("undoing in one").town("o0").then("hours(20)", "hours(20)", "hours(20)").is("undo(7)", 53);
        run.walker(0, 1, place[7]).then("hours(20)").walker(0, 1, place[27]).is("undo(0)", 27).walker(0, 1, 0);
        // turns are undone with the HOURS
        run = run("turns undone").town("s4 c4").then("hours(3)").is("undo(1)", 2).walker(0, 2, 1).walker(1, 2, 0);
        run.then("hours(1)").walker(0, 2, 4).walker(1, 2, 4).is("undo(0)", 2).then("hours(1)").walker(0, 2, 1);
    }

    private static void keeping() {
        Run run = run("keeping").is("keep(0)", WideTown.STATE).is("keep(2)", WideTown.STATE).bad("keep(3)", "keep(-1)");
        run.finds(Run.NOTHING, "on(0)", "on(1)", "on(2)").bad("on(3)", "on(-1)", "on(max)", "on(min)");
        run.town("w0 s1");
        for (int k = 0; k <= 2; k++) {
            run.is("keep(" + k + ")", k).is("count(5)", k + 1).then("hours(1)");
        }
        run.bad("keep(3)", "keep(-1)", "keep(max)", "keep(min)").is("count(5)", 3);
        int[] places = {0, 2, 24};
        for (int k = 0; k <= 2; k++) {
            run.is("on(" + k + ")", k).is("count(1)", k).walker(1, 1, places[k]).walker(1, 3, k).is("count(5)", 3);
        }
        // a place is kept anew; what is done behind on() changes no kept TOWN
        run.is("keep(0)", 2).then("stand(1, 4)", "head(1, 4)", "undo(0)", "hours(5)").is("on(0)", 2).walker(1, 1, 24);
        run.walker(1, 2, 1).is("undo(1)", 1).walker(1, 1, 2).is("undo(0)", 1).walker(1, 1, 0).is("on(0)", 2);
        run.is("on(1)", 1).bad("undo(2)").is("undo(0)", 1).is("on(1)", 1);
        run.is("town(0)", 2).finds(Run.NOTHING, "on(0)", "on(1)", "on(2)").is("count(5)", 0);
    }

    private static void goingOnAtHourSixty() {
        Run run = run("going on at hour sixty").town("o0").is("keep(0)", 0);
        run.then("hours(20)", "hours(20)", "hours(20)").is("keep(2)", 60).is("on(0)", 0).is("hours(20)", 20);
        run.is("on(2)", 60).is("hours(1)", WideTown.FULL).is("undo(20)", 40).walker(0, 2, 0).is("on(2)", 60);
        run.is("on(0)", 0).bad("undo(1)");
        // the TOWN's and each kept one's HOURS are their own
        run.then("head(0, 3)", "hours(2)").is("on(2)", 60).is("undo(2)", 58).walker(0, 2, 2);
    }

    /** A kept TOWN has all its HOURS, HOUR 60 too, whatever the TOWN did since. */
    private static void keptHours() {
        Run run = run("kept hours").town("s4 w2").then("hours(20)", "hours(20)", "hours(20)");
        long place = run.fact(0, 1);
        long went = run.fact(0, 3);
        run.is("keep(1)", 60).is("undo(0)", 60).then("stand(0, 2)", "head(0, 1)", "stand(1, 24)", "head(1, 0)");
        run.then("hours(20)", "hours(20)", "hours(20)", "stand(0, 1)", "head(0, 3)").is("on(1)", 60);
        run.walker(0, 1, place).walker(0, 2, 4).walker(0, 3, went).walker(1, 1, 0).walker(1, 2, 2).walker(1, 3, 60);
        for (int n = 59; n >= 0; n--) {
            run.is("undo(" + n + ")", 1).walker(0, 2, n % 2 == 0 ? 4 : 1).walker(1, 1, n % 2 == 0 ? 0 : 3);
        }
        run.walker(0, 1, 0).is("on(1)", 60).is("undo(2)", 58).walker(0, 1, 52).walker(0, 3, 2);
    }

    private static void meeting() {
        Run run = run("meeting").town("w0 w0 w1 h0 s0").asks("meet(0, 1)", 0, 0).asks("meet(1, 0)", 0, 0);
        // both are on 12 now, told by other WORDS
        run.then("stand(0, 12)", "stand(2, 21)").asks("meet(0, 2)", 0, 12)
            .bad("meet(0, 0)", "meet(5, 0)", "meet(0, 5)");
        run.is("asked()", 12);
        // behind an HOUR, not on the STREET: they change places by one STREET
        run.then("stand(0, 0)", "stand(1, 1)").is("meet(0, 1)", NONE).is("asked()", 12).is("finding()", 0);
        run = run("meeting at 40").town("s33 c30").asks("meet(0, 1)", 40, 1).asks("meet(1, 0)", 40, 1)
            .is("count(1)", 0);
        run = run("meeting at 41").town("s4414 c22").is("meet(0, 1)", NONE).is("asked()", 0).then("hours(1)");
        run.is("meet(0, 1)", 40).then("hours(20)", "hours(20)").is("meet(0, 1)", 0);
        // aside: HOUR 60 is no bound
        run = run("meeting behind hour 60").town("w0 h0").then("hours(20)", "hours(20)", "hours(20)");
        run.then("stand(1, 131313131)").asks("meet(0, 1)", 10, 0).is("count(1)", 60).walker(1, 4, 9).walker(0, 3, 60);
    }

    private static void parting() {
        String town = "r0 o22 s1 c4 h4444";
        Run run = run("parting").town(town).bad("part(0, 1, 41)", "part(0, 1, -1)", "part(0, 1, max)",
            "part(0, 1, min)");
        long[] gaps = new long[41];
        for (int n = 0; n <= 40; n++) {
            gaps[n] = run.does("part(0, 1, " + n + ")");
        }
        DUE.is("the gap now", gaps[0], 1);
        for (int n = 0; n <= 40; n++) {
            run.is("far(" + run.fact(0, 1) + ", " + run.fact(1, 1) + ")", gaps[n]).then("hours(1)");
        }
        run = run("parting to 18").town("s0 s1").is("part(0, 1, 9)", 18).is("part(0, 1, 10)", 18)
            .is("part(0, 1, 8)", 16);
        run.is("part(0, 1, 0)", 0).is("part(1, 0, 40)", 4).then("hours(20)", "hours(20)", "hours(20)");
        run.is("part(0, 1, 0)", run.does("far(" + run.fact(0, 1) + ", " + run.fact(1, 1) + ")"));
        run.is("count(1)", 60).is("part(0, 1, 40)", run.does("part(1, 0, 40)")).is("count(1)", 60);
    }

    private static void counting() {
        Run run = run("counting").bad("count(-1)", "count(8)", "count(max)", "count(min)").is("count(0)", 0);
        run.is("count(7)", 0).town("s0 r0 s0 r0 s0").is("count(2)", 5).is("count(3)", 0).is("count(4)", 5);
        run.then("hours(1)").is("count(4)", 0).is("count(1)", 1);
        run.town("c0 o0 c0 o0 o0").is("count(2)", 0).is("count(3)", 5).is("count(0)", 5);
        run.town("w0 h0 w0").is("count(2)", 0).is("count(3)", 0).is("count(0)", 3).then("stand(0, 1)")
            .is("count(4)", 2);
        run.is("count(5)", 0).is("keep(0)", 0).is("keep(0)", 0).is("count(5)", 1).is("count(7)", 1);
        run.town("w0").is("count(5)", 0).is("keep(2)", 0).is("count(5)", 1).is("keep(1)", 0).is("count(5)", 2);
        run.is("on(1)", 0).is("on(2)", 0).is("count(0)", 1);
        for (int r = 0; r <= 5; r++) {
            run.then("row(" + r + ", 0)").is("count(6)", r + 1);
        }
        run.then("text(0, 0)").is("count(7)", 1).then("text(3, 0)").is("count(7)", 2).is("count(6)", 6);
    }

    /** digest() of a full TOWN, of one of one WALKER, of one of none, with all places of kept ones. */
    private static void digests() {
        Run run = run("digest of a full town").town("w1 s2 c3 h424 o00")
            .then("text(0, 0)", "hours(1)", "keep(0)", "hours(1)");
        run.then("keep(2)", "hours(1)");
        // 5 WALKERS, HOUR 3, 1 STRAIGHT, 2 CIRCLERS, 1 at HOME, 2 kept, no ROWS, 1 TEXT
        run.is("digest()", digest(5, 3, 1, 2, 1, 2, 0, 1,
            0, 2, 1, 3, 1,
            1, 353, 4, 3, 3,
            2, 5, 4, 3, 1,
            3, 0, 4, 2, 0,
            5, 23, 3, 3, 2,
            1, -1, 2, -1, -1, -1, -1, -1, -1, 0, -1, -1, -1));
        run = run("digest of one").town("r4").then("hours(1)", "text(0, 0)")
            .is("digest()", digest(1, 1, 1, 0, 0, 0, 0, 1,
            4, 52, 4, 2, 2, -1, -1, -1, -1, -1, -1, -1, -1, -1, 0, -1, -1, -1));
        run.then("town(0)").is("digest()", digest(0, 0, 0, 0, 0, 0, 0, 1, -1, -1, -1, -1, -1, -1, -1, -1, -1, 0, -1,
            -1, -1));
    }

    private static long digest(int... told) {
        long h = 17;
        for (int v : told) {
            h = 31 * h + v;
        }
        return h;
    }
}
