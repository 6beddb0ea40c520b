import java.io.IOException;
import java.lang.reflect.Field;
import java.lang.reflect.Method;
import java.lang.reflect.Modifier;
import java.nio.file.Files;
import java.nio.file.Path;
import java.util.ArrayList;
import java.util.List;
import java.util.regex.Matcher;
import java.util.regex.Pattern;

/** README.md shows every method and constant, and its example answers what stands behind its calls. */
public final class ReadmeHolds {
    private static final String MADE = "TurntableHouse house = new TurntableHouse();";
    private static final Pattern CALL = Pattern.compile("house\\.(\\w+)\\(([^)]*)\\);\\s*// (-?\\d+)");
    private static int wrong = 0;

    private static void due(String what, Object got, Object want) {
        if (!got.equals(want)) {
            wrong++;
            System.out.println("README.md: " + what + " is " + got + ", due is " + want);
        }
    }

    public static void main(String[] args) throws IOException, ReflectiveOperationException {
        String page = Files.readString(Path.of("README.md"));
        namesAllMethods(page);
        namesAllConstants(page);
        runExample(page);
        namesAllTests(page);
        if (wrong != 0) {
            System.exit(1);
        }
    }

    private static void namesAllMethods(String page) {
        for (Method m : TurntableHouse.class.getDeclaredMethods()) {
            if (Modifier.isPublic(m.getModifiers())) {
                Matcher shown = Pattern.compile("\\| `" + m.getName() + "\\(([^)]*)\\)` \\|").matcher(page);
                Object parameters = shown.find() ? words(shown.group(1)).size() : "not in a table";
                due("the number of parameters of " + m.getName(), parameters, m.getParameterCount());
            }
        }
    }

    private static void namesAllConstants(String page) throws IllegalAccessException {
        for (Field f : TurntableHouse.class.getDeclaredFields()) {
            if (Modifier.isPublic(f.getModifiers())) {
                String row = "`" + f.getName() + "` | " + f.getInt(null) + " |";
                String inText = "`" + f.getName() + "` (" + f.getInt(null) + ")";
                due(f.getName() + " with its value", page.contains(row) || page.contains(inText), true);
            }
        }
    }

    private static void runExample(String page) throws ReflectiveOperationException {
        Matcher block = Pattern.compile("(?s)```java\n(.*?)```").matcher(page);
        if (!block.find()) {
            due("the example", "missing", "there");
            return;
        }
        TurntableHouse house = new TurntableHouse();
        for (String line : block.group(1).split("\n")) {
            Matcher call = CALL.matcher(line);
            if (call.matches()) {
                due(line, answer(house, call.group(1), words(call.group(2))), Integer.valueOf(call.group(3)));
            } else {
                due("a line without an answer", line, MADE);
            }
        }
    }

    private static void namesAllTests(String page) throws IOException {
        try (var files = Files.list(Path.of("src/test/java"))) {
            for (Path file : (Iterable<Path>) files::iterator) {
                String name = file.getFileName().toString().replace(".java", "");
                due(name + " among the tests", page.contains("- `" + name + "`: "), true);
            }
        }
    }

    private static List<String> words(String text) {
        return text.isBlank() ? List.of() : List.of(text.split(", "));
    }

    private static Object answer(TurntableHouse house, String name, List<String> words)
            throws ReflectiveOperationException {
        for (Method m : TurntableHouse.class.getMethods()) {
            if (m.getName().equals(name) && m.getParameterCount() == words.size()) {
                List<Object> values = new ArrayList<>();
                for (String word : words) {
                    values.add(valueOf(word));
                }
                return m.invoke(house, values.toArray());
            }
        }
        return "no such method";
    }

    private static Object valueOf(String word) throws ReflectiveOperationException {
        if (word.equals("true") || word.equals("false")) {
            return Boolean.valueOf(word);
        }
        if (word.startsWith("TurntableHouse.")) {
            return TurntableHouse.class.getField(word.substring(word.indexOf('.') + 1)).getInt(null);
        }
        return Integer.valueOf(word);
    }
}
