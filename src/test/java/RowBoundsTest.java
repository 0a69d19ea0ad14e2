/** Promises 1 to 9, 51 to 53 at their bounds: ROWS and TEXTS that are missing, empty, full; numbers at their ends. */
public final class RowBoundsTest {
    private static final Due DUE = new Due();

    public static void main(String[] args) {
        nothingAtFirst();
        whichRows();
        sizesOfRows();
        placesOfRows();
        rowsAnew();
        copiesOfAll();
        copiesOfNone();
        copiesWithinOne();
        means();
        whichTexts();
        sizesOfTexts();
        bytes();
        digests();
        manyFindings();
        DUE.end();
    }

    private static Run run(String name) {
        return new Run(DUE, name);
    }

    private static void nothingAtFirst() {
        Run run = run("new");
        for (int what = 0; what <= 7; what++) {
            run.is("count(" + what + ")", 0);
        }
        run.is("asked()", 0).is("upper()", 0).is("lower()", 1).is("finding()", 0);
        for (int f = 1; f <= 5; f++) {
            run.is("findings(" + f + ")", 0);
        }
        for (int r = 0; r <= 5; r++) {
            run.finds(Run.NOTHING, "at(" + r + ", 0)");
        }
        for (int t = 0; t <= 3; t++) {
            run.finds(Run.NOTHING, "fault(" + t + ")");
        }
        for (int k = 0; k <= 2; k++) {
            run.finds(Run.NOTHING, "on(" + k + ")");
        }
        run.bad("walker(0, 0)").is("hours(1)", WideTown.STATE).is("keep(0)", WideTown.STATE).is("undo(0)", 0);
        run.bad("undo(1)");
    }

    private static void whichRows() {
        Run run = run("which rows");
        for (int r = 0; r <= 5; r++) {
            run.is("row(" + r + ", " + (r + 1) + ")", r + 1).is("count(6)", r + 1);
        }
        for (int r = 0; r <= 5; r++) {
            run.asks("lay(" + r + ", " + r + ", " + (70 + r) + ")", 1, 0);
            run.finds(Run.BEYOND, "at(" + r + ", " + (r + 1) + ")");
        }
        for (int r = 0; r <= 5; r++) {
            run.asks("at(" + r + ", " + r + ")", 1, 70 + r);
        }
        for (int r = 0; r <= 5; r++) {
            run.is("tear(" + r + ")", 1).is("count(6)", 5 - r).finds(Run.NOTHING, "tear(" + r + ")");
        }
        run.bad("row(-1, 1)", "row(6, 1)", "tear(-1)", "tear(6)");
    }

    private static void sizesOfRows() {
        Run run = run("sizes of rows");
        run.is("row(0, 0)", 0).is("count(6)", 1).finds(Run.BEYOND, "at(0, 0)", "lay(0, 0, 1)", "at(0, -1)");
        run.is("row(0, 1)", 1).asks("at(0, 0)", 1, 0).finds(Run.BEYOND, "at(0, 1)");
        run.is("row(0, 39)", 39).asks("at(0, 38)", 1, 0).finds(Run.BEYOND, "at(0, 39)");
        run.is("row(0, 40)", 40).asks("at(0, 39)", 1, 0).finds(Run.BEYOND, "at(0, 40)");
        run.bad("row(0, 41)", "row(0, max)").finds(Run.SIZE, "row(0, -1)", "row(0, min)");
        run.asks("at(0, 39)", 1, 0).is("count(6)", 1);
        run.bad("row(1, 41)").finds(Run.SIZE, "row(1, -1)").finds(Run.NOTHING, "at(1, 0)");
    }

    private static void placesOfRows() {
        Run run = run("places of rows");
        run.is("row(5, 40)", 40);
        run.asks("lay(5, 0, max)", 1, 0).asks("lay(5, 39, min)", 1, 0);
        run.asks("at(5, 0)", 1, Integer.MAX_VALUE).asks("at(5, 39)", 1, Integer.MIN_VALUE);
        run.asks("at(5, 1)", 1, 0).asks("at(5, 38)", 1, 0);
        run.asks("lay(5, 0, -1)", 1, Integer.MAX_VALUE).asks("lay(5, 0, 0)", 1, -1);
        run.then("at(5, 39)");
        run.finds(Run.BEYOND, "lay(5, 40, 3)", "lay(5, -1, 3)", "at(5, 40)", "at(5, -1)", "at(5, max)", "at(5, min)");
        run.is("asked()", Integer.MIN_VALUE).is("finding()", Run.BEYOND);
    }

    private static void rowsAnew() {
        Run run = run("rows anew");
        run.row(2, 7, 8, 9).is("row(2, 3)", 3).holds(2, 0, 0, 0);
        run.row(2, 7, 8, 9).is("row(2, 2)", 2).holds(2, 0, 0).is("row(2, 3)", 3).holds(2, 0, 0, 0);
        run.row(2, 7, 8, 9).is("tear(2)", 1).is("row(2, 3)", 3).holds(2, 0, 0, 0);
        run.row(2, 7, 8, 9).is("row(2, 0)", 0).holds(2).is("row(2, 3)", 3).holds(2, 0, 0, 0);
        run.row(2, 7, 8, 9).is("path(0, 1, 2)", 1).holds(2, 0).is("path(2, 2, 2)", 0).holds(2);
        run.is("row(2, 3)", 3).holds(2, 0, 0, 0);
    }

    private static int[] upFrom(int first, int n) {
        int[] places = new int[n];
        for (int i = 0; i < n; i++) {
            places[i] = first + i;
        }
        return places;
    }

    private static void copiesOfAll() {
        Run run = run("copies of all").row(0, upFrom(1, 40)).then("row(5, 40)");
        run.is("copy(0, 0, 5, 0, 40)", 1).holds(5, upFrom(1, 40)).is("asked()", 40);
        run.finds(Run.BEYOND, "copy(0, 0, 5, 0, 41)", "copy(0, 1, 5, 0, 40)", "copy(0, 0, 5, 1, 40)");
        run.is("copy(0, 1, 5, 0, 39)", 1).is("copy(0, 39, 5, 39, 1)", 1);
        run.asks("at(5, 0)", 1, 2).asks("at(5, 38)", 1, 40).asks("at(5, 39)", 1, 40);
        run.is("copy(0, 0, 5, 39, 1)", 1).asks("at(5, 39)", 1, 1);
        run.finds(Run.BEYOND, "copy(0, 39, 5, 0, 2)", "copy(0, 0, 5, 39, 2)", "copy(0, 40, 5, 0, 1)",
            "copy(0, 0, 5, 40, 1)", "copy(0, -1, 5, 0, 1)", "copy(0, 0, 5, -1, 1)");
        // each ROW's own size counts
        run.row(1, 8, 9).finds(Run.BEYOND, "copy(0, 0, 1, 0, 3)", "copy(1, 0, 0, 0, 3)");
        run.is("copy(1, 0, 0, 0, 2)", 1).is("copy(0, 38, 1, 0, 2)", 1).holds(1, 39, 40);
        run.asks("at(0, 0)", 1, 8).asks("at(0, 1)", 1, 9).asks("at(0, 2)", 1, 3);
    }

    private static void copiesOfNone() {
        Run run = run("copies of none").row(0, 1, 2, 3).row(1).row(2, 4);
        run.is("copy(0, 0, 2, 0, 0)", 1).is("copy(0, 3, 2, 1, 0)", 1).is("copy(1, 0, 2, 0, 0)", 1);
        run.is("copy(0, 0, 1, 0, 0)", 1).is("copy(1, 0, 1, 0, 0)", 1);
        run.holds(0, 1, 2, 3).holds(1).holds(2, 4);
        run.finds(Run.BEYOND, "copy(0, 4, 2, 0, 0)", "copy(0, 0, 2, 2, 0)", "copy(1, 1, 2, 0, 0)",
            "copy(1, -1, 2, 0, 0)",
            "copy(0, 0, 1, 1, 0)", "copy(0, 0, 1, -1, 0)", "copy(1, 0, 0, 0, 1)");
        run.finds(Run.NOTHING, "copy(3, 0, 0, 0, 0)", "copy(0, 0, 3, 0, 0)").finds(Run.SIZE, "copy(0, 0, 1, 0, -1)");
    }

    private static void copiesWithinOne() {
        Run run = run("copies within one").row(3, 1, 2, 3, 4, 5).is("copy(3, 0, 3, 1, 4)", 1).holds(3, 1, 1, 2, 3, 4);
        run.row(3, 1, 2, 3, 4, 5).is("copy(3, 1, 3, 0, 4)", 1).holds(3, 2, 3, 4, 5, 5);
        run.row(3, 1, 2, 3, 4, 5).is("copy(3, 0, 3, 0, 5)", 1).holds(3, 1, 2, 3, 4, 5);
        run.row(3, 1, 2, 3, 4, 5).is("copy(3, 0, 3, 2, 3)", 1).holds(3, 1, 2, 1, 2, 3);
        run.row(3, 1, 2, 3, 4, 5).is("copy(3, 4, 3, 0, 1)", 1).holds(3, 5, 2, 3, 4, 5);
        run.finds(Run.BEYOND, "copy(3, 0, 3, 1, 5)", "copy(3, 1, 3, 0, 5)").holds(3, 5, 2, 3, 4, 5);
    }

    private static int[] all(int n, int v) {
        int[] places = new int[n];
        for (int i = 0; i < n; i++) {
            places[i] = v;
        }
        return places;
    }

    private static void means() {
        int min = Integer.MIN_VALUE;
        int max = Integer.MAX_VALUE;
        Run run = run("means").finds(Run.NOTHING, "mean(0)").row(0).finds(Run.NOUGHT, "mean(0)").is("asked()", 0);
        run.row(0, 0).asks("mean(0)", 1, 0).row(0, min).asks("mean(0)", 1, min).row(0, max).asks("mean(0)", 1, max);
        // cut: towards 0 on both sides
        run.row(0, 1, 0).asks("mean(0)", 1, 0).row(0, -1, 0).asks("mean(0)", 1, 0);
        run.row(0, 3, 0).asks("mean(0)", 1, 1).row(0, -3, 0).asks("mean(0)", 1, -1);
        run.row(0, 2, 2, 1).asks("mean(0)", 1, 1).row(0, -2, -2, -1).asks("mean(0)", 1, -1);
        run.row(0, 2, 0).asks("mean(0)", 1, 1).row(0, -2, 0).asks("mean(0)", 1, -1);
        run.row(0, max, max, max).asks("mean(0)", 1, max).row(0, min, min, min).asks("mean(0)", 1, min);
        run.row(0, min, max).asks("mean(0)", 1, 0).row(0, max, max, -max).asks("mean(0)", 1, max / 3);
        run = run("means of full rows").row(5, all(40, max)).asks("mean(5)", 1, max)
            .then("lay(5, 39, " + (max - 1) + ")");
        run.asks("mean(5)", 1, max - 1).row(5, all(40, min)).asks("mean(5)", 1, min);
        run.then("row(5, 40)", "lay(5, 39, 39)").asks("mean(5)", 1, 0).then("lay(5, 39, 40)").asks("mean(5)", 1, 1);
        run.then("lay(5, 39, -39)").asks("mean(5)", 1, 0).then("lay(5, 39, -40)").asks("mean(5)", 1, -1);
        run.bad("mean(6)", "mean(-1)").is("asked()", -1);
        // places of an earlier, longer ROW don't count
        run.row(4, 9, 9, 9).row(4, 3).asks("mean(4)", 1, 3).then("tear(4)").finds(Run.NOTHING, "mean(4)");
    }

    private static void whichTexts() {
        Run run = run("which texts");
        for (int t = 0; t <= 3; t++) {
            run.is("text(" + t + ", " + (t + 1) + ")", t + 1).is("count(7)", t + 1);
        }
        for (int t = 0; t <= 3; t++) {
            run.is("put(" + t + ", " + t + ", " + (70 + t) + ")", 1032);
            run.finds(Run.BEYOND, "put(" + t + ", " + (t + 1) + ", 7)");
        }
        for (int t = 0; t <= 3; t++) {
            run.is("put(" + t + ", " + t + ", 0)", 1070 + t);
        }
        run.bad("text(-1, 1)", "text(4, 1)", "put(-1, 0, 0)", "put(4, 0, 0)").is("count(7)", 4);
    }

    private static void sizesOfTexts() {
        Run run = run("sizes of texts");
        run.is("text(0, 0)", 0).is("count(7)", 1).finds(Run.BEYOND, "put(0, 0, 1)", "put(0, -1, 1)");
        run.is("text(0, 1)", 1).is("put(0, 0, 5)", 1032).finds(Run.BEYOND, "put(0, 1, 5)");
        run.is("text(0, 79)", 79).is("put(0, 78, 5)", 1032).finds(Run.BEYOND, "put(0, 79, 5)");
        run.is("text(0, 80)", 80).is("put(0, 0, 6)", 1032).is("put(0, 79, 7)", 1032);
        run.finds(Run.BEYOND, "put(0, 80, 5)", "put(0, -1, 5)", "put(0, max, 5)", "put(0, min, 5)");
        run.bad("text(0, 81)", "text(0, max)").finds(Run.SIZE, "text(0, -1)", "text(0, min)");
        run.is("put(0, 0, 32)", 1006).is("put(0, 79, 32)", 1007).is("put(0, 78, 32)", 1032);
        run.bad("text(1, 81)").finds(Run.SIZE, "text(1, -1)").finds(Run.NOTHING, "put(1, 0, 1)").is("count(7)", 1);
        // anew it is all blank
        run.then("put(0, 0, 9)", "put(0, 40, 9)", "text(0, 41)").is("put(0, 0, 1)", 1032).is("put(0, 40, 1)", 1032);
        run.then("text(0, 0)", "text(0, 80)").is("put(0, 0, 1)", 1032).is("put(0, 40, 1)", 1032)
            .is("put(0, 79, 1)", 1032);
    }

    private static void bytes() {
        Run run = run("bytes").then("text(2, 1)", "put(2, 0, 0)");
        int was = 0;
        int[] some = {127, 128, 255, 256, 257, -1, -128, -129, -256, 383, 384, 65535, 65536, Integer.MAX_VALUE,
            Integer.MIN_VALUE, 32};
        int[] cut = {127, -128, -1, 0, 1, -1, -128, 127, 0, 127, -128, -1, 0, -1, 0, 32};
        for (int i = 0; i < some.length; i++) {
            run.is("put(2, 0, " + some[i] + ")", 1000 + was);
            was = cut[i];
        }
        run.is("asked()", 0).is("put(2, 0, 0)", 1032);
    }

    private static long digest(int... told) {
        long h = 17;
        for (int v : told) {
            h = 31 * h + v;
        }
        return h;
    }

    private static void digests() {
        run("digest of nothing").is("digest()", digest(0, 0, 0, 0, 0, 0, 0, 0, -1, -1, -1, -1, -1, -1, -1, -1, -1,
            -1, -1, -1, -1));
        Run run = run("digest of what is empty").then("row(0, 0)", "row(5, 0)", "text(0, 0)", "text(3, 0)");
        run.is("digest()", digest(0, 0, 0, 0, 0, 0, 2, 2, -1, -1, -1, 0, -1, -1, -1, -1, 0, 0, -1, -1, 0));
        // torn is missing
        run.then("tear(0)", "row(1, 3)", "tear(1)");
        run.is("digest()", digest(0, 0, 0, 0, 0, 0, 1, 2, -1, -1, -1, -1, -1, -1, -1, -1, 0, 0, -1, -1, 0));
        run = run("digest of what is full").row(1, all(40, Integer.MIN_VALUE)).then("text(1, 80)", "put(1, 79, 128)");
        int[] told = new int[8 + 3 + 6 + 40 + 4 + 80];
        told[6] = 1;
        told[7] = 1;
        for (int i = 8; i < 12; i++) {
            told[i] = -1;
        }
        told[12] = 40;
        for (int i = 13; i < 53; i++) {
            told[i] = Integer.MIN_VALUE;
        }
        for (int i = 53; i < 58; i++) {
            told[i] = -1;
        }
        told[58] = 80;
        for (int i = 59; i < 139; i++) {
            told[i] = 32;
        }
        told[138] = -128;
        told[139] = -1;
        told[140] = -1;
        run.is("digest()", digest(told));
    }

    private static void manyFindings() {
        Run run = run("many findings");
        for (int k = 1; k <= 480; k++) {
            run.is("tear(0)", WideTown.FINDING);
        }
        run.is("findings(1)", 480).is("finding()", 1).is("findings(5)", 0)
            .bad("findings(0)", "findings(6)", "findings(-1)");
        run.finds(Run.SIZE, "row(0, -1)");
        run.is("findings(1)", 480);
    }
}
