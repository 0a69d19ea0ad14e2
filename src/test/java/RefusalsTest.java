import java.util.ArrayList;
import java.util.List;

/**
 * Terms, all promises: each refusal by itself, two at once in the document's order, and that what is refused
 * changes nothing but finding(), findings(). Of two objects made alike one is refused a call; then all is told of both,
 * their HOURS, undone ones and kept TOWNS too.
 */
public final class RefusalsTest {
    private static final int BAD = WideTown.BAD, FULL = WideTown.FULL, STATE = WideTown.STATE, SPENT = WideTown.SPENT;
    private static final int NONE = WideTown.NONE;
    private static final Due DUE = new Due();
    private static final String[] NO_ROW = {"-1", "6", "min", "max"};
    private static final String[] NO_TEXT = {"-1", "4", "min", "max"};
    private static final String[] NO_CODE = {"-1", "6", "10", "101", "555555556", "1111111111", "min", "max"};
    private static final String[] NO_WALKER = {"-1", "5", "min", "max"};

    public static void main(String[] args) {
        rows();
        copies();
        texts();
        walkers();
        hours();
        codes();
        numbers();
        walks();
        rowsOfCodes();
        lots();
        notRefused();
        twoAtOnce();
        DUE.end();
    }

    /** Something of everything: ROW 4, TEXT 3 and kept TOWN 1 are missing. */
    private static Run rich(String name) {
        Run run = new Run(DUE, name);
        run.row(0, 0, 2, 4, 1).row(1).row(3, 12, 0, 131, 5).row(5, 0, 0, 0, 0, 0, 0, 0);
        int[] straight = new int[40];
        for (int i = 1; i < 40; i += 2) {
            straight[i] = 2;
        }
        run.row(2, straight);
        run.town("s1 r4013 c22 o0 h31").text(1, "").text(2, "w0 s");
        run.then("hours(3)", "keep(0)", "stand(0, 313)", "hours(2)", "head(1, 3)", "keep(2)", "hours(2)", "undo(4)",
            "stand(2, 55124)", "hours(1)", "head(0, 4)");
        run.then("at(4, 0)", "lay(0, 4, 1)", "at(0, -1)", "mark(0, 2)", "mean(1)", "row(0, -1)", "text(0, -1)");
        return run.then("edge(3)", "at(0, 1)");
    }

    /** All that can be told of an object, and of what it was and will be. */
    private static List<Long> all(Run run) {
        List<Long> told = new ArrayList<>();
        for (String call : new String[] {"asked()", "upper()", "lower()", "digest()", "part(0, 1, 9)", "part(2, 4, 1)",
            "meet(0, 3)", "asked()"}) {
            told.add(run.does(call));
        }
        for (int i = 0; i < 5; i++) {
            for (int kind = 1; kind <= 5; kind++) {
                told.add(run.does("mark(" + i + ", " + kind + ")"));
            }
        }
        undone(run, told);
        for (int k = 0; k < 3; k++) {
            told.add(run.does("on(" + k + ")"));
            undone(run, told);
        }
        return told;
    }

    private static void undone(Run run, List<Long> told) {
        told.add(run.does("hours(3)"));
        for (long hour = run.does("count(1)"); hour >= 0; hour -= hour > 9 ? 7 : 1) {
            told.add(run.does("undo(" + hour + ")"));
            told.add(run.does("digest()"));
        }
    }

    /** A call that answers so, behind some others, and changes nothing (but, if it is none of 0, one FINDING). */
    private static void still(String call, int answer, int finding, String... before) {
        Run asked = rich(String.join(" ", before)).then(before);
        Run other = rich("the other one").then(before);
        long[] times = asked.findings();
        long latest = asked.does("finding()");
        other.findings();
        other.does("finding()");
        asked.is(call, answer);
        DUE.is(call + ": finding()", asked.does("finding()"), finding == 0 ? latest : finding);
        times[finding] += finding == 0 ? 0 : 1;
        long[] after = asked.findings();
        for (int f = 1; f <= 5; f++) {
            DUE.is(call + ": findings(" + f + ")", after[f], times[f]);
        }
        List<Long> changed = all(asked);
        List<Long> same = all(other);
        DUE.is(call + ": how much is told", changed.size(), same.size());
        for (int i = 0; i < same.size() && i < changed.size(); i++) {
            DUE.is(call + " was refused: what is told at place " + i, changed.get(i), same.get(i));
        }
    }

    private static void bad(String... calls) {
        for (String call : calls) {
            still(call, BAD, 0);
        }
    }

    /** A call with each of some numbers for its X is BAD. */
    private static void badBy(String call, String... numbers) {
        for (String number : numbers) {
            still(call.replace("X", number), BAD, 0);
        }
    }

    private static void finds(int finding, String... calls) {
        for (String call : calls) {
            still(call, WideTown.FINDING, finding);
        }
    }

    private static void rows() {
        badBy("row(X, 3)", NO_ROW);
        badBy("row(0, X)", "41", "max");
        finds(Run.SIZE, "row(0, -1)", "row(4, -1)", "row(0, min)");
        badBy("lay(X, 0, 7)", NO_ROW);
        finds(Run.NOTHING, "lay(4, 0, 7)");
        finds(Run.BEYOND, "lay(0, 4, 7)", "lay(0, -1, 7)", "lay(1, 0, 7)", "lay(2, 40, 7)", "lay(0, max, 7)",
            "lay(0, min, 7)");
        badBy("at(X, 0)", NO_ROW);
        finds(Run.NOTHING, "at(4, 0)");
        finds(Run.BEYOND, "at(0, 4)", "at(0, -1)", "at(1, 0)", "at(2, 40)", "at(0, max)", "at(0, min)");
        badBy("tear(X)", NO_ROW);
        finds(Run.NOTHING, "tear(4)");
        badBy("mean(X)", NO_ROW);
        finds(Run.NOTHING, "mean(4)");
        finds(Run.NOUGHT, "mean(1)");
    }

    private static void copies() {
        badBy("copy(X, 0, 0, 0, 1)", NO_ROW);
        badBy("copy(0, 0, X, 0, 1)", NO_ROW);
        finds(Run.SIZE, "copy(0, 0, 2, 0, -1)", "copy(0, 0, 2, 0, min)");
        finds(Run.NOTHING, "copy(4, 0, 2, 0, 1)", "copy(2, 0, 4, 0, 1)", "copy(4, 0, 4, 0, 0)", "copy(2, 0, 4, 0, 0)");
        // not so many of the one, of the other one
        finds(Run.BEYOND, "copy(0, 0, 2, 0, 5)", "copy(0, 1, 2, 0, 4)", "copy(0, 4, 2, 0, 1)", "copy(1, 0, 2, 0, 1)",
            "copy(2, 0, 0, 0, 5)", "copy(2, 0, 0, 1, 4)", "copy(2, 0, 0, 4, 1)", "copy(2, 0, 1, 0, 1)");
        finds(Run.BEYOND, "copy(0, -1, 2, 1, 2)", "copy(2, 1, 0, -1, 2)", "copy(0, 5, 2, 0, 0)", "copy(2, 0, 0, 5, 0)",
            "copy(0, -1, 2, 0, 0)", "copy(2, 0, 0, -1, 0)");
        finds(Run.BEYOND, "copy(0, 0, 2, 0, max)", "copy(0, max, 2, 0, max)", "copy(0, max, 2, 0, 1)",
            "copy(2, 0, 0, max, 1)", "copy(0, 1, 2, max, 3)", "copy(0, min, 2, 0, 1)", "copy(2, 0, 0, min, 1)");
    }

    private static void texts() {
        badBy("text(X, 3)", NO_TEXT);
        badBy("text(0, X)", "81", "max");
        finds(Run.SIZE, "text(0, -1)", "text(3, -1)", "text(0, min)");
        badBy("put(X, 0, 119)", NO_TEXT);
        finds(Run.NOTHING, "put(3, 0, 119)");
        finds(Run.BEYOND, "put(2, 4, 119)", "put(2, -1, 119)", "put(1, 0, 119)", "put(2, max, 119)",
            "put(2, min, 119)");
        badBy("fault(X)", NO_TEXT);
        finds(Run.NOTHING, "fault(3)");
        badBy("town(X)", NO_TEXT);
        finds(Run.NOTHING, "town(3)");
        still("town(2)", STATE, 0);
    }

    private static void walkers() {
        badBy("walker(X, 0)", NO_WALKER);
        badBy("walker(0, X)", "-1", "5", "min", "max");
        badBy("mark(X, 1)", NO_WALKER);
        badBy("mark(0, X)", "0", "-1", "6", "min", "max");
        // a STRAIGHT, a RUNNER, a CIRCLER, a LOST, a HOMER
        finds(Run.UNLIKE, "mark(0, 2)", "mark(0, 3)", "mark(0, 4)", "mark(0, 5)", "mark(1, 2)", "mark(1, 3)",
            "mark(1, 5)", "mark(2, 1)", "mark(2, 3)", "mark(2, 4)", "mark(2, 5)", "mark(3, 1)", "mark(3, 3)",
            "mark(3, 4)", "mark(4, 1)", "mark(4, 2)", "mark(4, 4)", "mark(4, 5)");
        badBy("stand(X, 12)", NO_WALKER);
        badBy("stand(0, X)", NO_CODE);
        badBy("head(X, 2)", NO_WALKER);
        badBy("head(0, X)", "-1", "5", "min", "max");
        badBy("meet(X, 1)", NO_WALKER);
        badBy("meet(1, X)", NO_WALKER);
        bad("meet(0, 0)", "meet(4, 4)");
        badBy("part(X, 1, 2)", NO_WALKER);
        badBy("part(1, X, 2)", NO_WALKER);
        badBy("part(0, 1, X)", "-1", "41", "min", "max");
        bad("part(0, 0, 0)", "part(4, 4, 3)");
        for (String call : new String[] {"walker(0, 0)", "mark(0, 1)", "stand(0, 0)", "head(0, 0)", "meet(0, 1)",
            "part(0, 1, 0)"}) {
            still(call, BAD, 0, "text(0, 0)", "town(0)");
        }
        still("walker(1, 0)", BAD, 0, "text(0, 2)", "put(0, 0, 119)", "put(0, 1, 48)", "town(0)");
    }

    private static void hours() {
        badBy("hours(X)", "-1", "21", "min", "max");
        still("hours(1)", STATE, 0, "text(0, 0)", "town(0)");
        still("hours(0)", STATE, 0, "text(0, 0)", "town(0)");
        still("hours(1)", FULL, 0, "undo(0)", "hours(20)", "hours(20)", "hours(20)");
        still("hours(2)", FULL, 0, "undo(0)", "hours(20)", "hours(20)", "hours(19)");
        still("hours(20)", FULL, 0, "undo(0)", "hours(20)", "hours(20)", "hours(1)");
        // the HOUR is 5
        badBy("undo(X)", "-1", "6", "min", "max");
        still("undo(1)", BAD, 0, "text(0, 0)", "town(0)");
        still("undo(61)", BAD, 0, "undo(0)", "hours(20)", "hours(20)", "hours(20)");
        badBy("keep(X)", "-1", "3", "min", "max");
        still("keep(0)", STATE, 0, "text(0, 0)", "town(0)");
        badBy("on(X)", "-1", "3", "min", "max");
        finds(Run.NOTHING, "on(1)");
        still("on(0)", WideTown.FINDING, Run.NOTHING, "town(0)");
        still("on(2)", WideTown.FINDING, Run.NOTHING, "town(0)");
    }

    private static void codes() {
        for (String call : new String[] {"plain(X)", "join(X, 1)", "join(1, X)", "back(X)", "far(X, 1)", "far(1, X)",
            "ends(X)", "begins(X)", "ways(X, 1)", "ways(1, X)", "between(X, 1)", "between(1, X)", "lies(X, 1, 1)",
            "lies(1, X, 1)", "lies(1, 1, X)", "path(X, 1, 0)", "path(1, X, 0)", "thin(X, 1, 1)", "thin(1, X, 1)",
            "thin(1, 1, X)", "beyond(X, 1)"}) {
            badBy(call, NO_CODE);
        }
        badBy("path(1, 12, X)", NO_ROW);
        still("join(131313131, 3)", SPENT, 0);
        still("join(131313131, 313131313)", SPENT, 0);
    }

    private static void numbers() {
        for (String call : new String[] {"ring(X)", "within(X)", "edge(X)"}) {
            badBy(call, "-1", "31", "min", "max");
        }
        badBy("beyond(1, X)", "-1", "21", "min", "max");
        badBy("houses(X)", "-1", "21", "min", "max");
        badBy("count(X)", "-1", "8", "min", "max");
        badBy("findings(X)", "0", "-1", "6", "min", "max");
    }

    private static void walks() {
        for (String call : new String[] {"walk(X)", "reaches(X)", "sees(X)"}) {
            badBy(call, NO_ROW);
            finds(Run.NOTHING, call.replace("X", "4"));
            for (String no : new String[] {"-1", "5", "min", "max"}) {
                still(call.replace("X", "0"), WideTown.FINDING, Run.UNLIKE, "lay(0, 0, " + no + ")");
                still(call.replace("X", "0"), WideTown.FINDING, Run.UNLIKE, "lay(0, 3, " + no + ")");
            }
        }
        still("walk(2)", SPENT, 0);
    }

    private static void rowsOfCodes() {
        for (String call : new String[] {"round(X, 2)", "post(X)", "burns(X, 2)", "held(X)", "idle(X)"}) {
            badBy(call, NO_ROW);
            finds(Run.NOTHING, call.replace("X", "4"));
            for (String no : NO_CODE) {
                still(call.replace("X", "3"), WideTown.FINDING, Run.UNLIKE, "lay(3, 0, " + no + ")");
                still(call.replace("X", "3"), WideTown.FINDING, Run.UNLIKE, "lay(3, 3, " + no + ")");
            }
            boolean few = call.startsWith("round");
            still(call.replace("X", "5"), WideTown.FINDING, Run.SIZE, few ? "row(5, 7)" : "row(5, 21)");
            still(call.replace("X", "5"), WideTown.FINDING, Run.SIZE, "row(5, 40)");
        }
        badBy("round(3, X)", NO_ROW);
        badBy("burns(3, X)", "-1", "5", "min", "max");
    }

    private static void lots() {
        badBy("drunk(X, 77)", "0", "-1", "61", "min", "max");
        badBy("drunk(5, X)", "0", "-1", "max", "min");
    }

    /** NONE is no refusal, but nothing is told by it either; and what is told aside changes no TOWN. */
    private static void notRefused() {
        still("fault(0)", NONE, 0);
        still("fault(2)", 4, 0);
        still("idle(1)", NONE, 0);
        still("idle(3)", NONE, 0, "row(3, 1)", "lay(3, 0, 1)");
        still("meet(1, 3)", NONE, 0);
        still("burns(1, 4)", 166, 0);
        still("sees(2)", 41, 0);
        still("join(131313131, 1)", 13131313, 0);
        // 31342 and 124525; the RUNNER was at 9, and comes back to 1245
        still("part(0, 1, 0)", 11, 0);
        still("mark(1, 4)", 4, 0);
        still("mark(3, 2)", 4, 0);
        still("hours(0)", 5, 0);
        still("undo(5)", 0, 0);
        still("copy(0, 4, 2, 40, 0)", 1, 0);
        still("copy(0, 0, 0, 0, 4)", 1, 0);
    }

    private static void twoAtOnce() {
        // BAD ahead of every FINDING, each FINDING in the order in which the promise names them
        bad("row(6, -1)", "row(6, 41)", "lay(6, -1, 0)", "lay(-1, 40, 0)", "at(6, -1)", "at(-1, 40)", "text(4, -1)",
            "text(4, 81)", "put(4, -1, 0)", "put(-1, 80, 0)");
        finds(Run.NOTHING, "lay(4, -1, 0)", "lay(4, 40, 0)", "at(4, -1)", "at(4, 40)", "put(3, -1, 0)",
            "put(3, 80, 0)");
        bad("copy(6, 0, 0, 0, -1)", "copy(0, 0, 6, 0, -1)", "copy(6, 0, 4, 0, 1)", "copy(4, 0, 6, 0, 1)",
            "copy(6, -1, 0, 0, 1)", "copy(0, 0, -1, 41, 1)");
        finds(Run.SIZE, "copy(4, 0, 0, 0, -1)", "copy(0, 0, 4, 0, -1)", "copy(0, -1, 0, 0, -1)",
            "copy(0, 0, 0, 41, -1)",
            "copy(4, 41, 4, 41, -1)");
        finds(Run.NOTHING, "copy(4, -1, 0, 0, 1)", "copy(4, 0, 0, 41, 1)", "copy(0, 0, 4, -1, 1)",
            "copy(0, 41, 4, 0, 1)");
        bad("walker(5, 5)", "mark(5, 0)", "mark(0, 0)", "mark(3, 6)", "stand(5, 6)", "head(5, 5)", "meet(5, 5)",
            "part(5, 5, 41)", "part(2, 2, 41)", "drunk(0, 0)", "path(6, 6, 6)", "beyond(6, 21)");
        still("hours(21)", BAD, 0, "text(0, 0)", "town(0)");
        still("hours(-1)", BAD, 0, "text(0, 0)", "town(0)");
        still("hours(21)", BAD, 0, "undo(0)", "hours(20)", "hours(20)", "hours(20)");
        still("keep(3)", BAD, 0, "text(0, 0)", "town(0)");
        still("on(3)", BAD, 0, "town(0)");
        bad("join(6, 131313131)", "join(131313131, 6)", "join(1111111111, 313131313)");
        // SPENT last: the ROW of 40 leads too far, and has what is no STREET
        still("walk(2)", WideTown.FINDING, Run.UNLIKE, "lay(2, 39, 5)");
        still("walk(2)", WideTown.FINDING, Run.UNLIKE, "lay(2, 0, -1)");
        bad("round(4, 6)", "round(6, 4)", "round(6, 6)", "burns(4, 5)", "burns(4, -1)", "burns(6, 5)");
        still("round(5, 6)", BAD, 0, "row(5, 7)");
        still("round(3, -1)", BAD, 0, "lay(3, 0, 6)");
        still("burns(5, 5)", BAD, 0, "row(5, 21)");
        still("burns(3, -1)", BAD, 0, "lay(3, 0, 6)");
        still("round(5, 4)", WideTown.FINDING, Run.SIZE, "row(5, 7)", "lay(5, 0, 6)");
        still("round(5, 4)", WideTown.FINDING, Run.SIZE, "row(5, 7)", "lay(5, 6, 6)");
        for (String call : new String[] {"post(5)", "burns(5, 1)", "held(5)", "idle(5)"}) {
            still(call, WideTown.FINDING, Run.SIZE, "row(5, 21)", "lay(5, 0, -1)");
            still(call, WideTown.FINDING, Run.SIZE, "row(5, 21)", "lay(5, 20, -1)");
        }
    }
}
