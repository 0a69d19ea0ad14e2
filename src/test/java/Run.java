import java.lang.reflect.InvocationTargetException;
import java.lang.reflect.Method;
import java.util.HashMap;
import java.util.Map;

/**
 * A new object and the calls made of it, each told as it is written: "row(0, 40)".
 * Numbers may be told as min, max. More than 512 calls are a fault of the test: what they answer is free.
 */
final class Run {
    static final int NOTHING = 1, BEYOND = 2, UNLIKE = 3, NOUGHT = 4, SIZE = 5;
    private static final int MOST_CALLS = 512;
    private static final Map<String, Method> METHODS = new HashMap<>();

    private final Due due;
    private final String name;
    private final WideTown x = new WideTown();
    private int calls = 0;

    static {
        for (Method method : WideTown.class.getDeclaredMethods()) {
            METHODS.put(method.getName(), method);
        }
    }

    Run(Due due, String name) {
        this.due = due;
        this.name = name;
    }

    /** What a call answers. */
    long does(String call) {
        int open = call.indexOf('(');
        String inside = call.substring(open + 1, call.indexOf(')')).trim();
        String[] told = inside.isEmpty() ? new String[0] : inside.split(" *, *");
        Object[] numbers = new Object[told.length];
        for (int i = 0; i < told.length; i++) {
            numbers[i] = number(told[i]);
        }
        calls++;
        if (calls > MOST_CALLS) {
            due.that(name + ": " + call + " comes behind 512 calls", false);
        }
        try {
            return ((Number) METHODS.get(call.substring(0, open)).invoke(x, numbers)).longValue();
        } catch (InvocationTargetException thrown) {
            due.that(name + ": " + call + " threw " + thrown.getCause(), false);
        } catch (IllegalAccessException no) {
            due.that(name + ": " + call + " is closed", false);
        }
        return Long.MIN_VALUE;
    }

    private static int number(String told) {
        return told.equals("min") ? Integer.MIN_VALUE : told.equals("max") ? Integer.MAX_VALUE : Integer.parseInt(told);
    }

    Run then(String... some) {
        for (String call : some) {
            does(call);
        }
        return this;
    }

    /** A call answers so. */
    Run is(String call, long want) {
        due.is(name + ": " + call, does(call), want);
        return this;
    }

    /** A call answers so, and asked() then tells so. */
    Run asks(String call, long want, long asked) {
        is(call, want);
        due.is(name + ": " + call + ": asked()", does("asked()"), asked);
        return this;
    }

    /** A call answers 1, and upper(), lower() then tell so. */
    Run tells(String call, long upper, long lower) {
        is(call, 1);
        due.is(name + ": " + call + ": upper()", does("upper()"), upper);
        due.is(name + ": " + call + ": lower()", does("lower()"), lower);
        return this;
    }

    Run bad(String... some) {
        for (String call : some) {
            is(call, WideTown.BAD);
        }
        return this;
    }

    /** A call answers FINDING; finding() tells which, findings() one more of it and no more of others. */
    Run finds(int finding, String... some) {
        for (String call : some) {
            long[] times = findings();
            is(call, WideTown.FINDING);
            due.is(name + ": " + call + ": finding()", does("finding()"), finding);
            times[finding]++;
            long[] after = findings();
            for (int f = NOTHING; f <= SIZE; f++) {
                due.is(name + ": " + call + ": findings(" + f + ")", after[f], times[f]);
            }
        }
        return this;
    }

    long[] findings() {
        long[] times = new long[SIZE + 1];
        for (int f = NOTHING; f <= SIZE; f++) {
            times[f] = does("findings(" + f + ")");
        }
        return times;
    }

    /** A ROW anew, with these places. */
    Run row(int r, int... places) {
        does("row(" + r + ", " + places.length + ")");
        for (int i = 0; i < places.length; i++) {
            if (places[i] != 0) {
                does("lay(" + r + ", " + i + ", " + places[i] + ")");
            }
        }
        return this;
    }

    /** A ROW has just these places. */
    Run holds(int r, int... places) {
        for (int i = 0; i < places.length; i++) {
            asks("at(" + r + ", " + i + ")", 1, places[i]);
        }
        return is("at(" + r + ", " + places.length + ")", WideTown.FINDING);
    }

    /** A TEXT anew, with these signs. */
    Run text(int t, String signs) {
        does("text(" + t + ", " + signs.length() + ")");
        for (int i = 0; i < signs.length(); i++) {
            if (signs.charAt(i) != ' ') {
                does("put(" + t + ", " + i + ", " + (int) signs.charAt(i) + ")");
            }
        }
        return this;
    }

    /** A TOWN by TEXT 0. */
    Run town(String signs) {
        text(0, signs);
        due.that(name + ": a town by '" + signs + "'", does("town(0)") >= 0);
        return this;
    }

    /** What walker() tells of a WALKER by asked(). */
    long fact(int i, int what) {
        is("walker(" + i + ", " + what + ")", 1);
        return does("asked()");
    }

    Run walker(int i, int what, long want) {
        return asks("walker(" + i + ", " + what + ")", 1, want);
    }
}
