/** Promises 1 to 9, 47, 51, 52: a new object, rows, texts, findings. */
public final class RowsTest {
    private static final int NOTHING = 1, BEYOND = 2, UNLIKE = 3, NOUGHT = 4, SIZE = 5;
    private static final Due DUE = new Due();

    public static void main(String[] args) {
        newObject();
        row();
        layAndAt();
        tear();
        copy();
        mean();
        text();
        put();
        findings();
        DUE.end();
    }

    private static void finding(WideTown x, String call, int got, int f) {
        DUE.is(call, got, WideTown.FINDING);
        DUE.is(call + ": finding()", x.finding(), f);
    }

    private static void askedIs(WideTown x, String call, int got, int want) {
        DUE.is(call, got, 1);
        DUE.is(call + ": asked()", x.asked(), want);
    }

    private static void newObject() {
        WideTown x = new WideTown();
        for (int what = 0; what < 8; what++) {
            DUE.is("new: count(" + what + ")", x.count(what), 0);
        }
        DUE.is("new: asked()", x.asked(), 0);
        DUE.is("new: upper()", x.upper(), 0);
        DUE.is("new: lower()", x.lower(), 1);
        DUE.is("new: finding()", x.finding(), 0);
        for (int f = 1; f <= 5; f++) {
            DUE.is("new: findings(" + f + ")", x.findings(f), 0);
        }
        long h = 17;
        for (int k = 0; k < 8; k++) {
            h = 31 * h;
        }
        for (int k = 0; k < 3 + 6 + 4; k++) {
            h = 31 * h - 1;
        }
        DUE.is("new: digest()", x.digest(), h);
    }

    private static void row() {
        WideTown x = new WideTown();
        DUE.is("row(0, 0)", x.row(0, 0), 0);
        DUE.is("row(5, 40)", x.row(5, 40), 40);
        DUE.is("count(6)", x.count(6), 2);
        DUE.is("row(-1, 3)", x.row(-1, 3), WideTown.BAD);
        DUE.is("row(6, 3)", x.row(6, 3), WideTown.BAD);
        DUE.is("row(1, 41)", x.row(1, 41), WideTown.BAD);
        DUE.is("row(6, -1)", x.row(6, -1), WideTown.BAD);
        DUE.is("row(1, max)", x.row(1, Integer.MAX_VALUE), WideTown.BAD);
        DUE.is("finding()", x.finding(), 0);
        finding(x, "row(1, -1)", x.row(1, -1), SIZE);
        finding(x, "row(1, min)", x.row(1, Integer.MIN_VALUE), SIZE);
        DUE.is("count(6)", x.count(6), 2);
        x.lay(5, 39, 7);
        DUE.is("row(5, 40) anew", x.row(5, 40), 40);
        askedIs(x, "at(5, 39)", x.at(5, 39), 0);
    }

    private static void layAndAt() {
        WideTown x = new WideTown();
        finding(x, "lay(2, 0, 1) without the row", x.lay(2, 0, 1), NOTHING);
        finding(x, "at(2, 0) without the row", x.at(2, 0), NOTHING);
        x.row(2, 3);
        askedIs(x, "lay(2, 1, min)", x.lay(2, 1, Integer.MIN_VALUE), 0);
        askedIs(x, "lay(2, 1, 9)", x.lay(2, 1, 9), Integer.MIN_VALUE);
        askedIs(x, "at(2, 1)", x.at(2, 1), 9);
        askedIs(x, "at(2, 0)", x.at(2, 0), 0);
        DUE.is("lay(-1, 0, 1)", x.lay(-1, 0, 1), WideTown.BAD);
        DUE.is("lay(6, 0, 1)", x.lay(6, 0, 1), WideTown.BAD);
        DUE.is("at(-1, 0)", x.at(-1, 0), WideTown.BAD);
        DUE.is("at(6, 0)", x.at(6, 0), WideTown.BAD);
        x.at(2, 1);
        finding(x, "lay(2, 3, 1)", x.lay(2, 3, 1), BEYOND);
        finding(x, "lay(2, -1, 1)", x.lay(2, -1, 1), BEYOND);
        finding(x, "at(2, 3)", x.at(2, 3), BEYOND);
        finding(x, "at(2, min)", x.at(2, Integer.MIN_VALUE), BEYOND);
        DUE.is("asked() behind what was refused", x.asked(), 9);
        x.row(2, 0);
        finding(x, "at(2, 0) of none", x.at(2, 0), BEYOND);
    }

    private static void tear() {
        WideTown x = new WideTown();
        finding(x, "tear(0)", x.tear(0), NOTHING);
        x.row(0, 2);
        DUE.is("tear(0)", x.tear(0), 1);
        DUE.is("count(6)", x.count(6), 0);
        finding(x, "at(0, 0)", x.at(0, 0), NOTHING);
        DUE.is("tear(6)", x.tear(6), WideTown.BAD);
        DUE.is("tear(-1)", x.tear(-1), WideTown.BAD);
    }

    private static void copy() {
        WideTown x = new WideTown();
        x.row(0, 5);
        x.row(1, 3);
        for (int i = 0; i < 5; i++) {
            x.lay(0, i, i + 1);
        }
        DUE.is("copy(0, 0, 0, 1, 4)", x.copy(0, 0, 0, 1, 4), 1);
        int[] forth = {1, 1, 2, 3, 4};
        for (int i = 0; i < 5; i++) {
            askedIs(x, "copy forth: at(0, " + i + ")", x.at(0, i), forth[i]);
        }
        DUE.is("copy(0, 2, 0, 0, 3)", x.copy(0, 2, 0, 0, 3), 1);
        int[] back = {2, 3, 4, 3, 4};
        for (int i = 0; i < 5; i++) {
            askedIs(x, "copy back: at(0, " + i + ")", x.at(0, i), back[i]);
        }
        DUE.is("copy(0, 2, 1, 1, 2)", x.copy(0, 2, 1, 1, 2), 1);
        int[] over = {0, 4, 3};
        for (int i = 0; i < 3; i++) {
            askedIs(x, "copy over: at(1, " + i + ")", x.at(1, i), over[i]);
        }
        DUE.is("copy(0, 5, 1, 3, 0)", x.copy(0, 5, 1, 3, 0), 1);
        finding(x, "copy(0, 6, 1, 0, 0)", x.copy(0, 6, 1, 0, 0), BEYOND);
        finding(x, "copy(0, 0, 1, 4, 0)", x.copy(0, 0, 1, 4, 0), BEYOND);
        finding(x, "copy(0, -1, 1, 0, 0)", x.copy(0, -1, 1, 0, 0), BEYOND);
        finding(x, "copy(0, 0, 1, 1, 3)", x.copy(0, 0, 1, 1, 3), BEYOND);
        finding(x, "copy(0, 3, 1, 0, 3)", x.copy(0, 3, 1, 0, 3), BEYOND);
        finding(x, "copy(0, 1, 1, 0, max)", x.copy(0, 1, 1, 0, Integer.MAX_VALUE), BEYOND);
        finding(x, "copy(0, max, 1, 0, 1)", x.copy(0, Integer.MAX_VALUE, 1, 0, 1), BEYOND);
        finding(x, "copy(0, 0, 2, 0, 1)", x.copy(0, 0, 2, 0, 1), NOTHING);
        finding(x, "copy(2, 9, 0, 0, 1)", x.copy(2, 9, 0, 0, 1), NOTHING);
        finding(x, "copy(2, 0, 0, 0, -1)", x.copy(2, 0, 0, 0, -1), SIZE);
        DUE.is("copy(6, 0, 0, 0, -1)", x.copy(6, 0, 0, 0, -1), WideTown.BAD);
        DUE.is("copy(0, 0, -1, 0, 1)", x.copy(0, 0, -1, 0, 1), WideTown.BAD);
    }

    private static void mean() {
        WideTown x = new WideTown();
        finding(x, "mean(3)", x.mean(3), NOTHING);
        x.row(3, 0);
        finding(x, "mean(3) of none", x.mean(3), NOUGHT);
        x.row(3, 2);
        x.lay(3, 0, -3);
        askedIs(x, "mean(3) of -3, 0", x.mean(3), -1);
        x.lay(3, 0, 3);
        askedIs(x, "mean(3) of 3, 0", x.mean(3), 1);
        x.lay(3, 0, Integer.MAX_VALUE);
        x.lay(3, 1, Integer.MAX_VALUE);
        askedIs(x, "mean(3) of the greatest", x.mean(3), Integer.MAX_VALUE);
        x.lay(3, 0, Integer.MIN_VALUE);
        x.lay(3, 1, Integer.MIN_VALUE);
        askedIs(x, "mean(3) of the least", x.mean(3), Integer.MIN_VALUE);
        x.row(3, 40);
        x.lay(3, 39, 79);
        askedIs(x, "mean(3) of 40", x.mean(3), 1);
        DUE.is("mean(6)", x.mean(6), WideTown.BAD);
        DUE.is("mean(-1)", x.mean(-1), WideTown.BAD);
    }

    private static void text() {
        WideTown x = new WideTown();
        DUE.is("text(0, 0)", x.text(0, 0), 0);
        DUE.is("text(3, 80)", x.text(3, 80), 80);
        DUE.is("count(7)", x.count(7), 2);
        DUE.is("text(4, 1)", x.text(4, 1), WideTown.BAD);
        DUE.is("text(-1, 1)", x.text(-1, 1), WideTown.BAD);
        DUE.is("text(1, 81)", x.text(1, 81), WideTown.BAD);
        finding(x, "text(1, -1)", x.text(1, -1), SIZE);
        DUE.is("put(3, 79, 9)", x.put(3, 79, 9), 1032);
        DUE.is("put(3, 79, 9) again", x.put(3, 79, 9), 1009);
        x.text(3, 80);
        DUE.is("put(3, 79, 9) anew", x.put(3, 79, 9), 1032);
    }

    private static void put() {
        WideTown x = new WideTown();
        finding(x, "put(0, 0, 1)", x.put(0, 0, 1), NOTHING);
        x.text(0, 2);
        DUE.is("put(0, 0, 255)", x.put(0, 0, 255), 1032);
        DUE.is("put(0, 0, 128)", x.put(0, 0, 128), 999);
        DUE.is("put(0, 0, 256 + 7)", x.put(0, 0, 256 + 7), 872);
        DUE.is("put(0, 0, 0)", x.put(0, 0, 0), 1007);
        finding(x, "put(0, 2, 1)", x.put(0, 2, 1), BEYOND);
        finding(x, "put(0, -1, 1)", x.put(0, -1, 1), BEYOND);
        DUE.is("put(4, 0, 1)", x.put(4, 0, 1), WideTown.BAD);
        DUE.is("put(-1, 0, 1)", x.put(-1, 0, 1), WideTown.BAD);
    }

    private static void findings() {
        WideTown x = new WideTown();
        x.at(0, 0);
        x.tear(1);
        x.row(0, 1);
        x.at(0, 1);
        x.lay(0, 0, 5);
        x.walk(0);
        x.row(0, 0);
        x.mean(0);
        x.row(0, -1);
        x.text(0, -1);
        x.row(0, -1);
        int[] times = {0, 2, 1, 1, 1, 3};
        for (int f = NOTHING; f <= SIZE; f++) {
            DUE.is("findings(" + f + ")", x.findings(f), times[f]);
        }
        DUE.is("finding()", x.finding(), SIZE);
        DUE.is("findings(0)", x.findings(0), WideTown.BAD);
        DUE.is("findings(6)", x.findings(6), WideTown.BAD);
        x.row(7, 7);
        DUE.is("finding() behind BAD", x.finding(), SIZE);
        x.row(0, 1);
        x.lay(0, 0, -1);
        x.walk(0);
        DUE.is("finding() of walk(0)", x.finding(), UNLIKE);
    }
}
