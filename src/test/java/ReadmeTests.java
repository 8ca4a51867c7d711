import java.io.IOException;
import java.lang.reflect.Field;
import java.lang.reflect.InvocationTargetException;
import java.lang.reflect.Method;
import java.lang.reflect.Modifier;
import java.nio.file.Files;
import java.nio.file.Path;
import java.util.HashMap;
import java.util.List;
import java.util.Map;
import java.util.Set;
import java.util.TreeSet;
import java.util.regex.Matcher;
import java.util.regex.Pattern;
import java.util.stream.Stream;

/** README.md is right: its examples answer what stands behind them, what it names is there, and it leaves no test out. */
public final class ReadmeTests {
    private static final Path TESTS = Path.of("src/test/java");
    private static final Pattern MADE = Pattern.compile("OakDeeds oak = new OakDeeds\\(\\);");
    private static final Pattern EXAMPLE =
            Pattern.compile("(?:int (\\w+) = )?oak\\.(\\w+)\\(([^()]*)\\); +// (-?\\d+|[A-Z]+)(?:: .*)?");

    private static final Map<String, Method> METHODS = new HashMap<>();
    private static final Map<String, Integer> NUMBERS = new HashMap<>();
    private static OakDeeds oak;
    private static int asked = 0;
    private static int wrong = 0;

    private ReadmeTests() {
    }

    public static void main(String[] args) throws Exception {
        String readme = Files.readString(Path.of("README.md"));
        readFace();
        playExamples(readme);
        Set<String> tests = testFiles();
        everyTestIsNamed(readme, tests);
        whatIsNamedIsThere(readme, tests);
        System.out.println(asked + " examples of README.md asked, " + wrong + " things in it are not right");
        if (wrong != 0 || asked == 0) {
            System.exit(1);
        }
    }

    private static void due(boolean holds, String what) {
        if (!holds) {
            wrong++;
            System.out.println("README.md: " + what);
        }
    }

    private static void readFace() throws IllegalAccessException {
        for (Method m : OakDeeds.class.getDeclaredMethods()) {
            if (Modifier.isPublic(m.getModifiers())) {
                METHODS.put(m.getName(), m);
            }
        }
        for (Field f : OakDeeds.class.getFields()) {
            NUMBERS.put(f.getName(), f.getInt(null));
        }
    }

    private static void playExamples(String readme) throws IllegalAccessException {
        Matcher block = Pattern.compile("(?s)```java\n(.*?)```").matcher(readme);
        while (block.find()) {
            for (String line : block.group(1).split("\n")) {
                playLine(line);
            }
        }
    }

    private static void playLine(String line) throws IllegalAccessException {
        if (MADE.matcher(line).matches()) {
            oak = new OakDeeds();
            return;
        }
        Matcher example = EXAMPLE.matcher(line);
        if (oak == null || !example.matches() || !METHODS.containsKey(example.group(2))) {
            due(false, "no example that can be played: " + line);
            return;
        }
        String given = example.group(3).strip();
        String[] words = given.isEmpty() ? new String[0] : given.split(", *");
        Object[] arguments = new Object[words.length];
        for (int i = 0; i < words.length; i++) {
            arguments[i] = number(words[i]);
        }
        asked++;
        try {
            Object got = METHODS.get(example.group(2)).invoke(oak, arguments);
            due(got.equals(number(example.group(4))), line + " .. answered " + got);
            if (example.group(1) != null) {
                NUMBERS.put(example.group(1), (Integer) got);
            }
        } catch (InvocationTargetException | IllegalArgumentException e) {
            due(false, line + " .. threw " + e);
        }
    }

    private static Integer number(String word) {
        String name = word.replace("OakDeeds.", "");
        return NUMBERS.containsKey(name) ? NUMBERS.get(name) : Integer.decode(name);
    }

    private static Set<String> testFiles() throws IOException {
        Set<String> names = new TreeSet<>();
        try (Stream<Path> files = Files.list(TESTS)) {
            files.forEach(f -> names.add(f.getFileName().toString().replace(".java", "")));
        }
        return names;
    }

    private static void everyTestIsNamed(String readme, Set<String> tests) {
        for (String test : tests) {
            due(readme.contains("`" + test + "`"), "does not name " + test);
        }
        for (Class<?> inner : OakDeeds.class.getDeclaredClasses()) {
            due(readme.contains("`" + inner.getSimpleName() + "`"), "does not name " + inner.getSimpleName());
        }
    }

    /** What stands between ` `: a path, a program, a sign, a method, a constant, a class. */
    private static void whatIsNamedIsThere(String readme, Set<String> tests) {
        Set<String> known = new TreeSet<>(List.of("javac", "java", "|", "*"));
        known.addAll(tests);
        known.addAll(METHODS.keySet());
        for (Field f : OakDeeds.class.getFields()) {
            known.add(f.getName());
        }
        for (Class<?> inner : OakDeeds.class.getDeclaredClasses()) {
            known.add(inner.getSimpleName());
        }
        Matcher named = Pattern.compile("`([^`\n]+)`").matcher(readme.replaceAll("(?s)```.*?```", ""));
        while (named.find()) {
            String name = named.group(1);
            boolean command = name.startsWith("javac ") && name.contains("src/main/java/OakDeeds.java");
            due(command || known.contains(name) || Files.exists(Path.of(name)), "names " + name + ", which is not there");
        }
    }
}
