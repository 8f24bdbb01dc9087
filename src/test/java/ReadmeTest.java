import java.io.File;
import java.io.IOException;
import java.lang.reflect.Field;
import java.lang.reflect.Method;
import java.lang.reflect.Modifier;
import java.nio.file.Files;
import java.nio.file.Path;
import java.util.List;
import java.util.regex.Matcher;
import java.util.regex.Pattern;

/** README.md: its examples answer as their comments say, and its tables leave out no method, constant or test. */
public final class ReadmeTest {
    private static final Pattern NEW = Pattern.compile("AbelianPowers x = new AbelianPowers\\(\\);( *// .*)?");
    private static final Pattern FEED = Pattern.compile("for \\(char c : \"([^\"]*)\"\\.toCharArray\\(\\)\\) x\\.feed\\(c\\);");
    private static final Pattern CALL = Pattern.compile("x\\.(\\w+\\([^)]*\\)); *// (-?\\d+)(:.*)?");
    private static final Pattern HOLDS = Pattern.compile(".*register (\\d) holds ([a-d]+)");

    public static void main(String[] args) throws IOException {
        List<String> lines = Files.readAllLines(Path.of("README.md"));
        Due.is("the examples", examples(lines), 3);
        methods(lines);
        constants(lines);
        tests(lines);
        Due.end();
    }

    private static int examples(List<String> lines) {
        int examples = 0;
        boolean inside = false;
        AbelianPowers x = new AbelianPowers();
        for (String line : lines) {
            Due.about(line);
            if (line.startsWith("```")) {
                inside = line.equals("```java");
                examples += inside ? 1 : 0;
            } else if (inside && NEW.matcher(line).matches()) {
                x = new AbelianPowers();
            } else if (inside) {
                follow(x, line);
            }
        }
        Due.about("");
        return examples;
    }

    private static void follow(AbelianPowers x, String line) {
        Matcher feed = FEED.matcher(line);
        Matcher call = CALL.matcher(line);
        Due.that("a line of an example feeds a text or tells an answer", feed.matches() || call.matches());
        if (feed.matches()) {
            Due.feed(x, feed.group(1));
        }
        if (call.matches()) {
            Calls.due(x, call.group(1), call.group(2));
            comment(x, call.group(2), call.group(3) == null ? "" : call.group(3));
        }
    }

    /** A comment that names an error or shows a word is true. */
    private static void comment(AbelianPowers x, String answer, String comment) {
        for (Field field : AbelianPowers.class.getFields()) {
            if (comment.matches(": " + field.getName() + "(,.*)?")) {
                Due.same(field.getName(), answer, value(field));
            }
        }
        Matcher holds = HOLDS.matcher(comment);
        if (holds.matches()) {
            Due.textIs(x, Integer.parseInt(holds.group(1)), holds.group(2));
        }
    }

    private static void methods(List<String> lines) {
        for (Method method : AbelianPowers.class.getDeclaredMethods()) {
            if (Modifier.isPublic(method.getModifiers())) {
                Due.is("rows that tell of " + method.getName(), rows(lines, "\\| [a-z ]+ \\|.*`" + method.getName() + "`.*"), 1);
            }
        }
    }

    private static void constants(List<String> lines) {
        for (Field field : AbelianPowers.class.getFields()) {
            String row = "\\| `" + field.getName() + "` \\| " + value(field) + " \\|.*";
            Due.is("rows that tell of " + field.getName(), rows(lines, row), 1);
        }
    }

    private static String value(Field field) {
        try {
            return String.valueOf(field.get(null));
        } catch (IllegalAccessException e) {
            return e.toString();
        }
    }

    private static void tests(List<String> lines) {
        File[] files = new File("src/test/java").listFiles((folder, name) -> name.endsWith("Test.java"));
        Due.that("there are tests", files != null && files.length > 0);
        if (files != null) {
            for (File file : files) {
                String name = file.getName().replace(".java", "");
                Due.is("rows that tell of " + name, rows(lines, "\\| `" + name + "` \\|.*"), 1);
            }
            Due.is("rows that tell of tests", rows(lines, "\\| `\\w+Test` \\|.*"), files.length);
        }
    }

    private static int rows(List<String> lines, String pattern) {
        int rows = 0;
        for (String line : lines) {
            rows += line.matches(pattern) ? 1 : 0;
        }
        return rows;
    }
}
