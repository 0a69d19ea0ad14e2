/** Counts and prints the calls whose answers are not as due. */
final class Due {
    private int wrong = 0;
    private int asked = 0;

    void is(String call, long got, long want) {
        asked++;
        if (got != want) {
            wrong++;
            if (wrong <= 50) {
                System.out.println(call + " answered " + got + ", due is " + want);
            }
        }
    }

    void that(String what, boolean so) {
        is(what, so ? 1 : 0, 1);
    }

    /** Ends the test: with exit code 1, if an answer was wrong. */
    void end() {
        System.out.println(asked + " answers looked at, " + wrong + " wrong");
        if (wrong != 0 || asked == 0) {
            System.exit(1);
        }
    }
}
