/** Promises 10, 11 at their bounds: FAULTS of TEXTS, sign by sign, and TOWNS that are empty and full. */
public final class TextBoundsTest {
    private static final int NONE = WideTown.NONE;
    private static final Due DUE = new Due();
    private static final String LETTERS = "wschro";

    public static void main(String[] args) {
        eachSign();
        emptyTexts();
        fullTexts();
        fifthStreet();
        sixthWalker();
        endWithoutHeading();
        blanks();
        townsOfNone();
        fullTown();
        townsAnew();
        refusedTowns();
        DUE.end();
    }

    private static Run run(String name) {
        return new Run(DUE, name);
    }

    /** Each TEXT's FAULT, then a number; of those without one the TOWN is made. */
    private static void faults(Object... table) {
        for (int k = 0; k + 1 < table.length; k += 2) {
            String signs = (String) table[k];
            int fault = (Integer) table[k + 1];
            Run run = run("'" + signs + "'").text(2, signs).is("fault(2)", fault).is("asked()", 0).is("finding()", 0);
            if (fault != NONE) {
                run.is("town(2)", WideTown.STATE).is("count(0)", 0).is("finding()", 0);
            } else {
                run.is("town(2)", signs.replaceAll("[^a-z]", "").length());
            }
        }
    }

    /** All 256 bytes, each at places of five sorts. */
    private static void eachSign() {
        Run run = null;
        for (int v = -128; v < 128; v++) {
            char sign = (char) v;
            boolean letter = v > 0 && LETTERS.indexOf(sign) >= 0;
            boolean figure = v >= '0' && v <= '4';
            boolean blank = v == ' ';
            // letters lack a HEADING behind them
            int item = letter ? 9 : blank ? NONE : 8;
            if (v % 16 == 0) {
                run = run("each sign").then("text(0, 1)", "text(1, 2)", "text(2, 8)", "text(3, 9)", "put(1, 0, 119)");
                String street = "w0      ";
                String full = "  w01234 ";
                for (int i = 0; i < 8; i++) {
                    run.then("put(2, " + i + ", " + (int) street.charAt(i) + ")");
                    run.then("put(3, " + i + ", " + (int) full.charAt(i) + ")");
                }
            }
            run.then("put(0, 0, " + v + ")", "put(1, 1, " + v + ")", "put(2, 2, " + v + ")", "put(3, 8, " + v + ")");
            run.is("fault(0)", letter ? 1 : blank ? NONE : 0);
            run.is("fault(1)", figure ? NONE : 1);
            // a letter as STREET begins an item, whose HEADING the next blank is not
            run.is("fault(2)", figure || blank ? NONE : letter ? 3 : 2);
            run.is("fault(3)", item);
            run.then("put(2, 2, 32)", "put(2, 7, " + (v + 256) + ")").is("fault(2)", letter ? 8 : blank ? NONE : 7);
            run.then("put(2, 7, 32)");
        }
    }

    private static void emptyTexts() {
        faults("", NONE, " ", NONE, " ".repeat(80), NONE);
        run("text missing").finds(Run.NOTHING, "fault(0)", "town(0)", "fault(3)", "town(3)").bad("fault(4)", "town(4)",
            "fault(-1)", "town(-1)");
    }

    private static void fullTexts() {
        String items = "w01234 s11234 c21234 h31234 r41234";
        faults(items + " ".repeat(46), NONE, " ".repeat(46) + items, NONE);
        faults(" ".repeat(79) + "w", 80, " ".repeat(78) + "w0", NONE, " ".repeat(79) + "0", 79, " ".repeat(79) + "x",
            79);
        faults(" ".repeat(74) + "o01234", NONE, " ".repeat(73) + "o012341", 79, " ".repeat(74) + "o01235", 79);
        faults(items + " ".repeat(45) + "o", 79, items + " ".repeat(45) + "4", 79);
    }

    private static void fifthStreet() {
        faults("w0", NONE, "w01", NONE, "w012", NONE, "w0123", NONE, "w01234", NONE, "w012340", 6, "w0123400", 6);
        faults("w000000", 6, "w444444", 6, "w44444", NONE, "w0123 4", 6, "w01234 0", 7, "s0 w012340", 9);
        faults("w01234w01234", NONE, "w01234w012341", 12, "w012345", 6, "w0123x", 5, "w012340x", 6);
        faults("w5", 1, "w05", 2, "w005", 3, "w0005", 4, "w00005", 5, "w000005", 6, "w/", 1, "w0/", 2, "w-1", 1,
            "w0-1", 2);
    }

    private static void sixthWalker() {
        String five = "w0 s1 c2 h3 r4";
        faults(five, NONE, five + " ", NONE, five + " o0", 15, five + "o0", 14, five + "  o", 16, five + " x", 15);
        faults("w0s1c2h3r4", NONE, "w0s1c2h3r4o", 10, "w0s1c2h3r4o0", 10, five + " 0", 15, five + "012340", 18);
        faults("o0 o0 o0 o0 o0", NONE, "o0 o0 o0 o0 o0 o0 o0", 15, " o0 o0 o0 o0 o0 w", 16, "o0 o0 o0 o0 o", 13);
    }

    private static void endWithoutHeading() {
        for (int i = 0; i < LETTERS.length(); i++) {
            String letter = LETTERS.substring(i, i + 1);
            faults(letter, 1, " " + letter, 2, letter + "0" + letter, 3, letter + "0 " + letter, 4, letter + "4", NONE);
            faults(letter + " ", 1, letter + letter, 1, letter + " 0", 1);
        }
    }

    private static void blanks() {
        faults("w0s1", NONE, "w0 s1", NONE, "w0     s1", NONE, "   w0", NONE, "w0   ", NONE, "  w01  s12  ", NONE);
        faults("w 0", 1, "w0 1", 3, " 0", 1, "w0 w 0", 4, "w0 1 w0", 3);
        faults("w0\t", 2, "\tw0", 0, "w0,s1", 2, "w0\n", 2, "w0" + (char) 160, 2, "w0" + (char) 0, 2);
        faults("W0", 0, "S0", 0, "R0", 0, "v0", 0, "x0", 0, "w0S1", 2, "w0 W1", 3);
    }

    private static void townsOfNone() {
        for (String signs : new String[] {"", " ", " ".repeat(80)}) {
            Run run = run("a town of none").town("w0 s1").then("hours(2)", "keep(1)").text(1, signs).is("town(1)", 0);
            run.is("count(0)", 0).is("count(1)", 0).is("count(5)", 0).is("count(4)", 0);
            run.bad("walker(0, 0)", "walker(0, 1)", "mark(0, 1)", "stand(0, 0)", "head(0, 0)", "meet(0, 1)", "undo(1)");
            run.is("hours(0)", WideTown.STATE).is("keep(0)", WideTown.STATE).is("undo(0)", 0);
            run.finds(Run.NOTHING, "on(1)");
        }
    }

    private static void fullTown() {
        Run run = run("a full town").town("w01234 s14321 c20000 h34444 r40202").is("count(0)", 5);
        // a word that is not plain, one that leads back, figures of 9 are never reached
        int[] codes = {2345, 5432, 0, 0, 1313};
        int[] plain = {2345, 4523, 0, 0, 1313};
        for (int i = 0; i < 5; i++) {
            run.walker(i, 0, i).walker(i, 1, plain[i]).walker(i, 2, i).walker(i, 3, 0);
            run.is("plain(" + codes[i] + ")", plain[i]).is("far(0, " + codes[i] + ")", run.fact(i, 4));
        }
        run.bad("walker(5, 0)", "walker(-1, 0)").is("count(4)", 2);
        run = run("a lost one").town("o4").walker(0, 0, 5).walker(0, 2, 4).bad("walker(1, 0)");
    }

    private static void townsAnew() {
        Run run = run("towns anew").town("s1 w0").then("hours(3)", "keep(0)", "hours(1)", "keep(1)", "keep(2)");
        run.is("count(5)", 3).is("town(0)", 2).is("count(1)", 0).is("count(5)", 0);
        run.walker(0, 1, 0).walker(0, 2, 1).walker(0, 3, 0).is("undo(0)", 0).bad("undo(1)");
        run.finds(Run.NOTHING, "on(0)", "on(1)", "on(2)");
        // by turns from the TEXT's HEADING on, though an odd number of STREETS was gone
        run.then("hours(1)").walker(0, 2, 3).then("hours(1)").walker(0, 2, 1);
        // a TEXT that is read again is the same TOWN
        run.text(3, "w213 s04 c3").is("fault(3)", NONE).is("town(3)", 3).walker(0, 1, 24).walker(1, 1, 5)
            .walker(2, 1, 0);
        run.is("town(3)", 3).walker(0, 1, 24).walker(1, 1, 5).walker(2, 1, 0).is("town(0)", 2).walker(0, 1, 0);
        // a TEXT that is changed changes no TOWN
        run.then("put(0, 0, 120)", "text(0, 0)").is("count(0)", 2).walker(0, 0, 1);
    }

    private static void refusedTowns() {
        Run run = run("refused towns").town("s1 w0").then("hours(3)", "keep(0)").text(1, "w0 w").text(2, "x");
        run.is("town(1)", WideTown.STATE).is("town(2)", WideTown.STATE).finds(Run.NOTHING, "town(3)").bad("town(4)");
        run.is("count(0)", 2).is("count(1)", 3).is("count(5)", 1).walker(0, 1, 242).walker(0, 2, 3).is("on(0)", 3);
        run.is("findings(1)", 1);
    }
}
