import java.io.IOException;
import java.lang.reflect.Method;
import java.lang.reflect.Modifier;
import java.nio.file.Files;
import java.nio.file.Path;
import java.util.List;
import java.util.Set;
import java.util.TreeSet;
import java.util.regex.Matcher;
import java.util.regex.Pattern;
import java.util.stream.Collectors;
import java.util.stream.Stream;

/** README.md: its example calls answer as it tells, and it names all calls and all tests, and no others. */
public final class ReadmeTest {
    private static final Due DUE = new Due();
    private static final Pattern BLOCK = Pattern.compile("(?s)```java\n(.*?)```");
    private static final Pattern CALL = Pattern.compile("x\\.(\\w+\\([^;]*\\)); +// (-?\\d+)(:.*)?");
    private static final Pattern SIGN = Pattern.compile("'(.)'");

    public static void main(String[] args) throws IOException {
        String readme = Files.readString(Path.of("README.md"));
        examples(readme);
        calls(readme);
        tests(readme);
        constants(readme);
        DUE.end();
    }

    private static void examples(String readme) {
        Matcher blocks = BLOCK.matcher(readme);
        int examples = 0;
        while (blocks.find()) {
            examples++;
            example("example " + examples, blocks.group(1).split("\n"));
        }
        DUE.that("README.md has examples", examples > 0);
    }

    /** A new object in the first line; in each other one a call and, first behind the strokes, its answer. */
    private static void example(String name, String[] lines) {
        DUE.that(name + " begins by a new object", lines[0].equals("WideTown x = new WideTown();"));
        Run run = new Run(DUE, "README.md, " + name);
        for (int i = 1; i < lines.length; i++) {
            Matcher call = CALL.matcher(lines[i]);
            if (call.matches()) {
                run.is(bySigns(call.group(1)), Long.parseLong(call.group(2)));
            } else {
                DUE.that(name + " tells the answer of: " + lines[i], false);
            }
        }
    }

    private static String bySigns(String call) {
        return SIGN.matcher(call).replaceAll(found -> Integer.toString(found.group(1).charAt(0)));
    }

    /** The first column of the table of calls: each call of the face, and nothing else. */
    private static void calls(String readme) {
        Set<String> face = new TreeSet<>();
        for (Method method : WideTown.class.getDeclaredMethods()) {
            if (Modifier.isPublic(method.getModifiers())) {
                face.add(method.getName());
            }
        }
        same("the calls", firstColumn(readme, "| calls |"), face);
    }

    private static void tests(String readme) throws IOException {
        try (Stream<Path> files = Files.list(Path.of("src/test/java"))) {
            Set<String> there = files.map(file -> file.getFileName().toString())
                .filter(name -> name.endsWith("Test.java"))
                .map(name -> name.replace(".java", "")).collect(Collectors.toCollection(TreeSet::new));
            same("the tests", firstColumn(readme, "| test |"), there);
        }
    }

    private static void same(String what, Set<String> told, Set<String> there) {
        DUE.that(what + ": README.md has " + told + ", there are " + there, told.equals(there) && !there.isEmpty());
    }

    /** What stands between backticks in the first column of the table that begins so. */
    private static Set<String> firstColumn(String readme, String head) {
        Set<String> found = new TreeSet<>();
        int from = readme.indexOf(head);
        DUE.that("README.md has a table " + head, from >= 0);
        List<String> table =
            readme.substring(Math.max(0, from)).lines().takeWhile(line -> line.startsWith("|")).toList();
        for (String line : table) {
            Matcher names = Pattern.compile("`(\\w+)`").matcher(line.split("\\|")[1]);
            while (names.find()) {
                found.add(names.group(1));
            }
        }
        return found;
    }

    private static void constants(String readme) {
        String[] names = {"BAD", "FULL", "FINDING", "STATE", "SPENT", "NONE"};
        int[] values = {WideTown.BAD, WideTown.FULL, WideTown.FINDING, WideTown.STATE, WideTown.SPENT, WideTown.NONE};
        for (int i = 0; i < names.length; i++) {
            DUE.that(names[i] + " as README.md tells it",
                Pattern.compile("`" + names[i] + "` " + values[i] + "\\b").matcher(readme).find());
        }
    }
}
