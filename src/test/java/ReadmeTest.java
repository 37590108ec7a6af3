import java.io.ByteArrayOutputStream;
import java.io.IOException;
import java.io.PrintStream;
import java.lang.reflect.Field;
import java.lang.reflect.Method;
import java.lang.reflect.Modifier;
import java.nio.file.Files;
import java.nio.file.Path;
import java.util.Set;
import java.util.TreeSet;
import java.util.regex.Matcher;
import java.util.regex.Pattern;

// README.md, held against the class: its example and the names it uses. Runs in the project's
// directory, as .ci/run does.
public final class ReadmeTest {
    private static final Due due = new Due();

    public static void main(String[] args) throws IOException {
        String readme = Files.readString(Path.of("README.md"));
        String example = Files.readString(Path.of("src/test/java/Example.java"));
        due.same("the example", block(readme, "java"), example);
        due.same("what it prints", block(readme, "text"), printed());
        due.answer("the methods it tells of", tables(readme), methods());
        Set<String> unknown = constantsNamed(readme);
        unknown.removeAll(constants());
        due.answer("constants that the class has not", unknown, Set.of());
        due.end();
    }

    private static String block(String readme, String kind) {
        Matcher m = Pattern.compile("(?s)```" + kind + "\n(.*?)```").matcher(readme);
        return m.find() ? m.group(1) : "";
    }

    private static String printed() {
        PrintStream screen = System.out;
        ByteArrayOutputStream bytes = new ByteArrayOutputStream();
        System.setOut(new PrintStream(bytes));
        Example.main(new String[0]);
        System.out.flush();
        System.setOut(screen);
        return bytes.toString().replace(System.lineSeparator(), "\n");
    }

    // The calls in the first column of a table, each as its name and number of parameters.
    private static Set<String> tables(String readme) {
        Set<String> found = new TreeSet<>();
        Matcher m = Pattern.compile("(?m)^\\| `(\\w+)\\((.*?)\\)`").matcher(readme);
        while (m.find()) {
            int parameters = m.group(2).isEmpty() ? 0 : m.group(2).split(",").length;
            found.add(m.group(1) + " " + parameters);
        }
        return found;
    }

    private static Set<String> methods() {
        Set<String> found = new TreeSet<>();
        for (Method method : NeighborCache.class.getDeclaredMethods()) {
            if (Modifier.isPublic(method.getModifiers())) {
                found.add(method.getName() + " " + method.getParameterCount());
            }
        }
        return found;
    }

    private static Set<String> constantsNamed(String readme) {
        Set<String> found = new TreeSet<>();
        Matcher m = Pattern.compile("`([A-Z_]+)`").matcher(readme);
        while (m.find()) {
            found.add(m.group(1));
        }
        return found;
    }

    private static Set<String> constants() {
        Set<String> found = new TreeSet<>();
        for (Field field : NeighborCache.class.getDeclaredFields()) {
            if (Modifier.isPublic(field.getModifiers())) {
                found.add(field.getName());
            }
        }
        return found;
    }
}
