import java.io.IOException;
import java.lang.management.ManagementFactory;
import java.lang.reflect.Constructor;
import java.lang.reflect.Field;
import java.lang.reflect.Method;
import java.lang.reflect.Modifier;
import java.nio.file.Files;
import java.nio.file.Path;
import java.util.HashMap;
import java.util.HashSet;
import java.util.Map;
import java.util.Set;
import java.util.regex.Matcher;
import java.util.regex.Pattern;

/** The rules of LANGUAGE.md that a test can look at, the document's face, and the one room of all calls. */
public final class LanguageTest {
    private static final Due DUE = new Due();
    private static final String FACE = "row lay at tear copy mean text put fault town walker mark stand head hours undo"
        + " keep on plain join back far ends begins ways between lies path thin ring within edge beyond houses walk"
        + " reaches sees round post burns held idle meet part drunk asked upper lower count finding findings digest";

    public static void main(String[] args) throws IOException {
        face();
        source();
        loops();
        room();
        DUE.end();
    }

    private static void face() {
        Set<String> face = new HashSet<>(Set.of(FACE.split(" ")));
        DUE.that("the class is final and public", (WideTown.class.getModifiers() & 17) == 17);
        for (Constructor<?> c : WideTown.class.getDeclaredConstructors()) {
            DUE.that("the constructor is public and bare",
                Modifier.isPublic(c.getModifiers()) && c.getParameterCount() == 0);
        }
        for (Method m : WideTown.class.getDeclaredMethods()) {
            DUE.that(m + " is private, or of the face and public",
                face.contains(m.getName()) ? m.getModifiers() == Modifier.PUBLIC
                    : Modifier.isPrivate(m.getModifiers()));
            DUE.that(m + " takes at most seven", m.getParameterCount() <= 7);
        }
        Set<String> constants = Set.of("BAD", "FULL", "FINDING", "STATE", "SPENT", "NONE");
        int fields = 0;
        for (Field f : WideTown.class.getDeclaredFields()) {
            boolean still = Modifier.isStatic(f.getModifiers());
            fields += still ? 0 : 1;
            DUE.that(f + " is private, or of the face", constants.contains(f.getName())
                ? Modifier.isPublic(f.getModifiers()) : Modifier.isPrivate(f.getModifiers()));
            DUE.that(f + " is final, if static", !still || Modifier.isFinal(f.getModifiers()));
        }
        DUE.that("some twenty fields", fields <= 20);
        Class<?>[] inside = WideTown.class.getDeclaredClasses();
        DUE.that("at most twelve classes", inside.length < 12);
        for (Class<?> c : inside) {
            DUE.that(c + " is static and not public",
                Modifier.isStatic(c.getModifiers()) && !Modifier.isPublic(c.getModifiers()));
            for (Method m : c.getDeclaredMethods()) {
                DUE.that(m + " bears no name of the face", !face.contains(m.getName()));
            }
        }
    }

    private static void source() throws IOException {
        String text = Files.readString(Path.of("src/main/java/WideTown.java"));
        String code = text.replaceAll("(?s)/\\*.*?\\*/", "").replaceAll("//[^\n]*", "");
        for (String word : "throw try catch synchronized assert package transient volatile native strictfp".split(" ")) {
            DUE.that("the word " + word, !Pattern.compile("\\b" + word + "\\b").matcher(code).find());
        }
        DUE.that("no lambda", !code.contains("->"));
        DUE.that("no method reference", !code.contains("::"));
        DUE.that("signs 1 to 127 alone", text.chars().allMatch(c -> c > 0 && c < 128));
        Matcher imports = Pattern.compile("import ([^;]*);").matcher(code);
        while (imports.find()) {
            DUE.that("import " + imports.group(1), imports.group(1).equals("java.util.Arrays"));
        }
        Set<String> library = Set.of("Arrays.fill", "System.arraycopy", "Math.min", "Math.max", "Integer.bitCount");
        Matcher uses = Pattern.compile("\\b(Arrays|System|Math|Integer|Long|String|Character)\\.(\\w+)").matcher(code);
        while (uses.find()) {
            DUE.that("the library's " + uses.group(), library.contains(uses.group()));
        }
        int from = 0;
        String[] lines = text.split("\n", -1);
        for (int i = 0; i < lines.length; i++) {
            if (lines[i].matches(" {4}( {4})?[\\w\\[\\]]+( \\w+)*[ (].*\\) \\{")) {
                from = i;
            }
            if (lines[i].matches(" {4}( {4})?\\}")) {
                DUE.that("a short method ends at line " + (i + 1), i - from <= 60 || lines[i].length() == 5);
            }
        }
    }

    /** Rule 9: no loop goes against a bound alone that it moves itself, or by a method of its own class. */
    private static void loops() throws IOException {
        String text = Files.readString(Path.of("src/main/java/WideTown.java"));
        String code = text.replaceAll("(?s)/\\*.*?\\*/", "").replaceAll("//[^\n]*", "");
        int looked = 0;
        for (String inside : code.split("private static final class ")) {
            Map<String, String> methods = bodies(inside, "(?m)^ {4,8}\\w[\\w\\[\\] ]* (\\w+)\\([^;{]*\\) \\{");
            Matcher loop = Pattern.compile("for \\(int (\\w+) = [^;]*; \\1 <=? (\\w+); [^{]*\\{").matcher(inside);
            while (loop.find()) {
                looked++;
                DUE.that("a bound that the loop does not move: " + loop.group(),
                    !moves(body(inside, loop.end()), loop.group(2), methods, new HashSet<>()));
            }
        }
        DUE.that("loops are found", looked > 20);
    }

    private static Map<String, String> bodies(String code, String head) {
        Map<String, String> bodies = new HashMap<>();
        Matcher heads = Pattern.compile(head).matcher(code);
        while (heads.find()) {
            bodies.merge(heads.group(1), body(code, heads.end()), String::concat);
        }
        return bodies;
    }

    /** From behind an opening brace to the one that closes it. */
    private static String body(String code, int from) {
        int open = 1;
        int i = from;
        for (; i < code.length() && open > 0; i++) {
            open += code.charAt(i) == '{' ? 1 : code.charAt(i) == '}' ? -1 : 0;
        }
        return code.substring(from, i);
    }

    private static boolean moves(String body, String bound, Map<String, String> methods, Set<String> seen) {
        if (Pattern.compile("(?<![.\\w])" + bound + "(\\+\\+|--| [-+*/]?= )").matcher(body).find()) {
            return true;
        }
        Matcher calls = Pattern.compile("(?<![.\\w])(\\w+)\\(").matcher(body);
        while (calls.find()) {
            String name = calls.group(1);
            if (methods.containsKey(name) && seen.add(name) && moves(methods.get(name), bound, methods, seen)) {
                return true;
            }
        }
        return false;
    }

    /** All calls of a run live in one room, so calls make nothing and an object is small. */
    private static void room() {
        com.sun.management.ThreadMXBean threads =
            (com.sun.management.ThreadMXBean) ManagementFactory.getThreadMXBean();
        long id = Thread.currentThread().getId();
        WideTown x = dearest(new WideTown());
        long before = threads.getThreadAllocatedBytes(id);
        dearest(x);
        dearest(x);
        long calls = threads.getThreadAllocatedBytes(id) - before;
        DUE.that("calls make " + calls + " bytes", calls <= 4096);
        before = threads.getThreadAllocatedBytes(id);
        x = new WideTown();
        long object = threads.getThreadAllocatedBytes(id) - before;
        DUE.that("a new object has " + object + " bytes", object <= 65536);
    }

    private static WideTown dearest(WideTown x) {
        x.row(0, 20);
        for (int i = 0; i < 20; i++) {
            x.lay(0, i, 123451234);
        }
        x.row(1, 40);
        x.row(2, 6);
        x.text(0, 2);
        x.put(0, 0, 'r');
        x.put(0, 1, '3');
        x.town(0);
        x.hours(20);
        x.keep(0);
        x.on(0);
        x.undo(3);
        x.ways(123451234, 543215432);
        x.between(123451234, 543215432);
        x.lies(123451234, 543215432, 0);
        x.path(123451234, 543215432, 3);
        x.thin(123451234, 543215432, 24);
        x.edge(30);
        x.beyond(1, 20);
        x.houses(20);
        x.walk(1);
        x.reaches(1);
        x.sees(1);
        x.round(2, 4);
        x.post(0);
        x.burns(0, 4);
        x.held(0);
        x.idle(0);
        x.drunk(60, 5);
        x.count(5);
        x.digest();
        return x;
    }
}
