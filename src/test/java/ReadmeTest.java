import java.io.IOException;
import java.lang.reflect.Field;
import java.lang.reflect.InvocationTargetException;
import java.lang.reflect.Method;
import java.lang.reflect.Modifier;
import java.nio.file.Files;
import java.nio.file.Path;
import java.util.HashMap;
import java.util.List;
import java.util.Map;
import java.util.TreeSet;
import java.util.regex.Matcher;
import java.util.regex.Pattern;
import java.util.stream.Stream;

/**
 * README.md says what is so: the calls of its example are made as they stand there, and must answer what stands behind
 * them; it names all of the face; and its list of tests is that of the tests that there are.
 */
public final class ReadmeTest {
    private static final Path README = Path.of("README.md");
    private static final Path TESTS = Path.of("src", "test", "java");
    private static final String MADE = "DatalogMill mill = new DatalogMill();";
    private static final Pattern CALL = Pattern.compile("(?:int (\\w+) = )?mill\\.(\\w+)\\((.*)\\);(?: +// (.*))?");
    private static final Pattern ANSWER = Pattern.compile("(true|false|-?\\d+|throws \\w+)(:.*)?");

    private static int wrong = 0;
    private static int answers = 0;

    private final DatalogMill mill = new DatalogMill();
    private final Map<String, Integer> numbers = new HashMap<>();

    private static void due(String what, Object got, Object want) {
        if (!got.equals(want)) {
            wrong++;
            System.out.println(what + " is " + got + ", due is " + want);
        }
    }

    public static void main(String[] arguments) throws IOException, IllegalAccessException {
        List<String> lines = Files.readAllLines(README);
        ReadmeTest example = new ReadmeTest();
        for (String line : lines) {
            if (line.startsWith("    ") && line.contains("mill")) {
                example.make(line.trim());
            }
        }
        due("there are more than 50 answers: " + answers, answers > 50, true);
        lookForFace(String.join(" ", lines));
        lookForTests(lines);
        System.out.println(answers + " answers of README.md, " + wrong + " faults");
        if (wrong != 0) {
            System.exit(1);
        }
    }

    // ---- the example

    private void make(String line) throws IllegalAccessException {
        Matcher call = CALL.matcher(line);
        if (!call.matches()) {
            due("a line of the example", line, MADE);
            return;
        }
        String said = call.group(4) == null ? "" : call.group(4);
        Matcher answer = ANSWER.matcher(said);
        String got = answerOf(call.group(2), call.group(3).isEmpty() ? new String[0] : call.group(3).split(", "));
        if (answer.matches()) {
            answers++;
            due(line, got, answer.group(1));
        } else {
            due(line + " (nothing is said of its answer)", got, "null");
        }
        if (call.group(1) != null && got.matches("\\d+")) {
            numbers.put(call.group(1), Integer.valueOf(got));
        }
    }

    private String answerOf(String name, String[] terms) throws IllegalAccessException {
        Object[] told = new Object[terms.length];
        for (int i = 0; i < terms.length; i++) {
            told[i] = valueOf(terms[i]);
        }
        for (Method m : DatalogMill.class.getMethods()) {
            if (m.getName().equals(name) && m.getParameterCount() == told.length) {
                try {
                    return String.valueOf(m.invoke(mill, told));
                } catch (InvocationTargetException e) {
                    return "throws " + e.getCause().getClass().getSimpleName();
                }
            }
        }
        return "no call of the face";
    }

    private Object valueOf(String term) throws IllegalAccessException {
        if (term.matches("-?\\d+")) {
            return Integer.valueOf(term);
        }
        if (term.equals("true") || term.equals("false")) {
            return term.equals("true");
        }
        for (Field f : DatalogMill.class.getFields()) {
            if (term.equals("DatalogMill." + f.getName())) {
                return f.get(null);
            }
        }
        due("the example has made " + term, numbers.containsKey(term), true);
        return numbers.getOrDefault(term, 0);
    }

    // ---- what the page names

    private static void lookForFace(String page) {
        for (Field f : DatalogMill.class.getFields()) {
            due("the page names " + f.getName(), page.matches(".*[`.]" + f.getName() + "\\b.*"), true);
        }
        for (Method m : DatalogMill.class.getMethods()) {
            if (!Modifier.isStatic(m.getModifiers()) && m.getDeclaringClass() == DatalogMill.class) {
                due("the example calls " + m.getName(), page.contains(" mill." + m.getName() + "("), true);
            }
        }
    }

    private static void lookForTests(List<String> lines) throws IOException {
        TreeSet<String> named = new TreeSet<>();
        TreeSet<String> there = new TreeSet<>();
        Matcher name = Pattern.compile("`(\\w+Test)`").matcher(String.join(" ", lines));
        while (name.find()) {
            named.add(name.group(1));
        }
        try (Stream<Path> files = Files.list(TESTS)) {
            files.map(f -> f.getFileName().toString()).filter(f -> f.endsWith("Test.java"))
                    .forEach(f -> there.add(f.replace(".java", "")));
        }
        due("the tests that the page names", named, there);
        for (String line : lines) {
            if (line.startsWith("    bash ")) {
                due(line.trim() + " can be run", Files.isExecutable(Path.of(line.trim().substring(5))), true);
            }
        }
    }
}
