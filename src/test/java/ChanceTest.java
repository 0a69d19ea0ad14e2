import java.lang.reflect.Method;
import java.lang.reflect.Modifier;
import java.util.ArrayList;
import java.util.Arrays;
import java.util.Comparator;
import java.util.List;
import java.util.Random;

/** All promises: runs of calls by chance, each answer and the whole state compared with the slow Model. */
public final class ChanceTest {
    private static final int RUNS = 400, CALLS = 512;
    private static final Due DUE = new Due();
    private static final int[] ODD = {Integer.MIN_VALUE, -10, -1, 0, 1, 2, 3, 4, 5, 6, 7, 20, 21, 30, 31, 40, 41,
        60, 61, 80, 81, 10, 16, 102, 555555555, 555555556, 1111111111, 2147483646, Integer.MAX_VALUE};

    private final Random random;
    private final int run;
    private final WideTown x = new WideTown();
    private final Model model = new Model();
    private int calls = 0;

    private ChanceTest(int run) {
        this.run = run;
        this.random = new Random(run);
    }

    public static void main(String[] args) throws ReflectiveOperationException {
        List<Method> methods = new ArrayList<>();
        for (Method m : WideTown.class.getDeclaredMethods()) {
            if (Modifier.isPublic(m.getModifiers())) {
                methods.add(m);
            }
        }
        methods.sort(Comparator.comparing(Method::getName));
        DUE.is("how many public methods", methods.size(), 52);
        for (int run = 0; run < RUNS; run++) {
            new ChanceTest(run).go(methods);
        }
        DUE.end();
    }

    private void go(List<Method> methods) throws ReflectiveOperationException {
        while (calls < CALLS) {
            int what = random.nextInt(12);
            if (what == 0) {
                fillRow();
            } else if (what == 1) {
                writeTown();
            } else {
                Method m = methods.get(random.nextInt(methods.size()));
                call(m.getName(), arguments(m));
            }
        }
    }

    private void call(String name, int... arguments) throws ReflectiveOperationException {
        if (calls >= CALLS) {
            return;
        }
        calls++;
        Class<?>[] types = new Class<?>[arguments.length];
        Object[] given = new Object[arguments.length];
        for (int i = 0; i < arguments.length; i++) {
            types[i] = int.class;
            given[i] = arguments[i];
        }
        Number got = (Number) WideTown.class.getMethod(name, types).invoke(x, given);
        Number want = (Number) Model.class.getMethod(name, types).invoke(model, given);
        String told = "run " + run + ", call " + calls + ": " + name + Arrays.toString(arguments);
        DUE.is(told, got.longValue(), want.longValue());
        DUE.is(told + ": asked()", x.asked(), model.asked());
        DUE.is(told + ": upper()", x.upper(), model.upper());
        DUE.is(told + ": lower()", x.lower(), model.lower());
        DUE.is(told + ": finding()", x.finding(), model.finding());
        DUE.is(told + ": digest()", x.digest(), model.digest());
        for (int f = 1; f <= 5; f++) {
            DUE.is(told + ": findings(" + f + ")", x.findings(f), model.findings(f));
        }
    }

    private int upTo(int most) {
        return random.nextInt(most + 1);
    }

    private int code() {
        int figures = random.nextBoolean() ? upTo(4) : upTo(9);
        int code = 0;
        for (int i = 0; i < figures; i++) {
            code = code * 10 + 1 + random.nextInt(5);
        }
        return random.nextInt(40) == 0 ? ODD[random.nextInt(ODD.length)] : code;
    }

    private void fillRow() throws ReflectiveOperationException {
        int r = upTo(5);
        int kind = random.nextInt(4);
        int n = kind == 0 ? upTo(40) : kind == 1 ? upTo(6) : kind == 2 ? upTo(12) : upTo(22);
        call("row", r, n);
        int streets = 1 + random.nextInt(5);
        for (int i = 0; i < n; i++) {
            call("lay", r, i, kind == 0 ? random.nextInt(streets) : kind == 3 ? shortCode() : code());
        }
    }

    private int shortCode() {
        int code = 0;
        for (int figures = 1 + upTo(2); figures > 0; figures--) {
            code = code * 10 + 1 + random.nextInt(5);
        }
        return code;
    }

    private void writeTown() throws ReflectiveOperationException {
        StringBuilder signs = new StringBuilder();
        int walkers = 1 + upTo(4) + (random.nextInt(12) == 0 ? 1 : 0);
        for (int i = 0; i < walkers; i++) {
            signs.append(" ".repeat(random.nextInt(3)));
            signs.append("wschro".charAt(random.nextInt(6)));
            for (int figures = 1 + upTo(4); figures > 0; figures--) {
                signs.append((char) ('0' + random.nextInt(5)));
            }
        }
        signs.append(" ".repeat(random.nextInt(3)));
        if (random.nextInt(5) == 0) {
            signs.setCharAt(random.nextInt(signs.length()), "w5 0o9xW!".charAt(random.nextInt(9)));
        }
        if (random.nextInt(8) == 0) {
            signs.setLength(upTo(signs.length()));
        }
        int t = upTo(3);
        call("text", t, signs.length());
        for (int i = 0; i < signs.length(); i++) {
            if (signs.charAt(i) != ' ') {
                call("put", t, i, signs.charAt(i) + (random.nextInt(50) == 0 ? 256 : 0));
            }
        }
        call("fault", t);
        call("town", t);
        call("hours", upTo(12));
    }

    private int[] arguments(Method m) {
        int[] arguments = new int[m.getParameterCount()];
        for (int i = 0; i < arguments.length; i++) {
            arguments[i] = random.nextInt(25) == 0 ? ODD[random.nextInt(ODD.length)] : argument(m.getName(), i);
        }
        return arguments;
    }

    private int argument(String name, int i) {
        switch (name) {
            case "plain": case "join": case "back": case "far": case "ends": case "begins": case "ways":
            case "between": case "lies": case "thin":
                return code();
            case "path":
                return i < 2 ? code() : upTo(5);
            case "beyond":
                return i == 0 ? code() : upTo(20);
            case "stand":
                return i == 0 ? upTo(5) : code();
            case "row":
                return i == 0 ? upTo(5) : upTo(12);
            case "text":
                return i == 0 ? upTo(3) : upTo(12);
            case "copy":
                return upTo(8);
            case "hours":
                return upTo(8);
            case "undo":
                return upTo(20);
            case "drunk":
                return i == 0 ? 1 + upTo(59) : random.nextInt();
            case "ring": case "within": case "edge":
                return upTo(30);
            case "houses":
                return upTo(20);
            case "part":
                return i < 2 ? upTo(4) : upTo(40);
            case "lay": case "put":
                return i == 2 ? random.nextInt() : upTo(5);
            case "keep": case "on":
                return upTo(2);
            case "count":
                return upTo(7);
            default:
                return upTo(5);
        }
    }
}
