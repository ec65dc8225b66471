import java.io.ByteArrayOutputStream;
import java.io.PrintStream;
import java.lang.reflect.Method;
import java.lang.reflect.Modifier;
import java.nio.file.Files;
import java.nio.file.Path;
import java.util.ArrayList;
import java.util.List;
import java.util.TreeSet;
import java.util.regex.Matcher;
import java.util.regex.Pattern;
import java.util.stream.Collectors;
import java.util.stream.Stream;

/** README.md: its example is the one that is run here, its calls are those of the class, its tests those that there are. */
public final class ReadmeTest {
    private static final Path TESTS = Path.of("src/test/java");
    private static final Path EXAMPLE = TESTS.resolve("help/ReadmeExample.java");

    public static void main(String[] args) throws Exception {
        String page = Files.readString(Path.of("README.md"));
        example(page);
        calls(page);
        constants(page);
        tests(page);
        classes(page);
        Check.end();
    }

    private static void same(String what, Object got, Object want) {
        Check.due(what + ": " + got + ", and " + want, got.equals(want), true);
    }

    private static List<String> found(String pattern, String text) {
        return Pattern.compile(pattern).matcher(text).results().map(m -> m.group(1)).collect(Collectors.toList());
    }

    private static void example(String page) throws Exception {
        List<String> blocks = found("(?s)```java\n(.*?)```", page);
        Check.due("one block of Java", blocks.size(), 1);
        same("the block is the file", blocks.get(0), Files.readString(EXAMPLE));
        List<String> told = found("println\\(.*\\); // (.*)", page);
        Check.due("each row that prints tells what", told.size(), found("(println)\\(", page).size());
        same("what the example prints", printed(), told);
    }

    private static List<String> printed() {
        PrintStream out = System.out;
        ByteArrayOutputStream caught = new ByteArrayOutputStream();
        System.setOut(new PrintStream(caught, true));
        try {
            ReadmeExample.main(new String[0]);
        } finally {
            System.setOut(out);
        }
        return caught.toString().lines().collect(Collectors.toList());
    }

    /** The row of calls has each one of the class once, with as many arguments as it takes, and no other. */
    private static void calls(String page) {
        List<String> told = new ArrayList<>();
        Matcher row = Pattern.compile("(?m)^\\| `(\\w+)\\(([^)]*)\\)` \\|").matcher(page);
        while (row.find()) {
            told.add(row.group(1) + " " + (row.group(2).isEmpty() ? 0 : row.group(2).split(", ").length));
        }
        TreeSet<String> there = new TreeSet<>();
        for (Method m : NightDoors.class.getDeclaredMethods()) {
            if (Modifier.isPublic(m.getModifiers())) {
                there.add(m.getName() + " " + m.getParameterCount());
            }
        }
        Check.due("each call once", told.size(), there.size());
        same("the calls", new TreeSet<>(told), there);
    }

    private static void constants(String page) {
        Check.due("NONE is told", page.contains("`NONE` (" + NightDoors.NONE + ")"), true);
        Check.due("NOTHING is told", page.contains("`NOTHING`"), true);
    }

    /** Each test is told, and each one told is there; so are the places that .ci/run looks at. */
    private static void tests(String page) throws Exception {
        TreeSet<String> there = new TreeSet<>();
        try (Stream<Path> files = Files.list(TESTS)) {
            files.map(f -> f.getFileName().toString()).filter(f -> f.endsWith(".java"))
                .forEach(f -> there.add(f.substring(0, f.length() - 5)));
        }
        same("the tests", new TreeSet<>(found("`(\\w+Test)`", page)), there);
        String run = Files.readString(Path.of(".ci/run"));
        for (String place : new String[] {".ci/run", "src/main/java/NightDoors.java", "../shared/tests", "src/test/java",
            "src/test/java/help", "javac", "build"}) {
            Check.due(place + " is told", page.contains(place), true);
            Check.due(place + " is looked at", place.equals(".ci/run") || run.contains(place), true);
        }
    }

    /** The classes inside are told, and those told are there. */
    private static void classes(String page) {
        String made = page.substring(Math.max(0, page.indexOf("## How it is made")));
        TreeSet<String> there = new TreeSet<>();
        for (Class<?> c : NightDoors.class.getDeclaredClasses()) {
            there.add(c.getSimpleName());
        }
        same("the classes inside", new TreeSet<>(found("`([A-Z]\\w+)`", made)), there);
    }
}
