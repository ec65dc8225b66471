import java.lang.reflect.Constructor;
import java.lang.reflect.Field;
import java.lang.reflect.Method;
import java.lang.reflect.Modifier;
import java.nio.file.Files;
import java.nio.file.Path;
import java.util.ArrayList;
import java.util.Arrays;
import java.util.List;
import java.util.TreeSet;
import java.util.regex.Matcher;
import java.util.regex.Pattern;

/** What of ../shared/LANGUAGE.md can be seen by a simple look, and the face of the class. */
public final class LanguageTest {
    private static final String FACE = "feed end dream fault has letter dreamer weigh guide room later till again soonest"
        + " least along days hand against chance meet day take set night undo seed told fits ask image octet on status";

    public static void main(String[] args) throws Exception {
        source();
        face();
        Check.end();
    }

    private static void source() throws Exception {
        String text = Files.readString(Path.of("src/main/java/NightDoors.java"));
        Check.due("signs above 126", text.chars().filter(c -> c > 126).count(), 0);
        String code = text.replaceAll("(?s)/\\*.*?\\*/", "").replaceAll("//[^\n]*", "").replaceAll("\"[^\"]*\"", "A_TEXT");
        for (String word : new String[] {"\\bthrow", "\\btry\\b", "\\bcatch\\b", "\\bsynchronized\\b", "\\bassert\\b", "->",
            "::", "\\bimport\\b", "\\bpackage\\b", "Exact\\b", "\\bequals\\b", "\\bhashCode\\b", "\\btoString\\b",
            "\\bvar\\b", "\\bfloat\\b", "\\bdouble\\b", "\\bprotected\\b", "MAX_VALUE", "MIN_VALUE", "A_TEXT \\+", "\\+ A_TEXT"}) {
            Check.due("in the source: " + word, Pattern.compile(word).matcher(code).find(), false);
        }
        Matcher classes = Pattern.compile("\\b(class|interface|enum|record) \\w+").matcher(code);
        Check.due("twelve classes at most", classes.results().count() <= 12, true);
        int longest = 0;
        int from = 0;
        String[] lines = text.split("\n");
        for (int i = 0; i < lines.length; i++) {
            if (lines[i].matches("( {4}| {8})\\S.*\\) \\{")) {
                from = i;
            } else if (lines[i].matches("( {4}| {8})\\}")) {
                longest = Math.max(longest, i - from + 1);
                from = i;
            }
        }
        Check.due("sixty lines a method at most", longest <= 60, true);
    }

    private static void face() {
        TreeSet<String> open = new TreeSet<>();
        TreeSet<String> shut = new TreeSet<>();
        for (Method m : NightDoors.class.getDeclaredMethods()) {
            (Modifier.isPublic(m.getModifiers()) ? open : shut).add(m.getName());
            Check.due("public or private: " + m.getName(),
                Modifier.isPublic(m.getModifiers()) || Modifier.isPrivate(m.getModifiers()), true);
        }
        Check.due("the face", open.equals(new TreeSet<>(Arrays.asList(FACE.split(" ")))), true);
        for (Class<?> c : NightDoors.class.getDeclaredClasses()) {
            Check.due("static: " + c, Modifier.isStatic(c.getModifiers()), true);
            Check.due("twenty fields at most: " + c, fields(c) <= 20, true);
            for (Method m : c.getDeclaredMethods()) {
                shut.add(m.getName());
                Check.due("seven parameters at most: " + m, m.getParameterCount() <= 7, true);
            }
        }
        Check.due("twenty fields at most", fields(NightDoors.class) <= 20, true);
        shut.retainAll(open);
        Check.due("names of the face borne by others: " + shut, shut.size(), 0);
        List<String> constants = new ArrayList<>();
        for (Field f : NightDoors.class.getDeclaredFields()) {
            if (!Modifier.isPrivate(f.getModifiers())) {
                constants.add(f.getName());
            }
        }
        Check.due("the constants " + constants, constants.equals(List.of("NONE", "NOTHING")), true);
        Constructor<?>[] made = NightDoors.class.getDeclaredConstructors();
        Check.due("one constructor", made.length, 1);
        Check.due("a public one", Modifier.isPublic(made[0].getModifiers()), true);
    }

    private static int fields(Class<?> c) {
        int many = 0;
        for (Field f : c.getDeclaredFields()) {
            many += Modifier.isStatic(f.getModifiers()) ? 0 : 1;
        }
        return many;
    }
}
