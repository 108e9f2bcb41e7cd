import java.io.IOException;
import java.nio.file.Files;
import java.nio.file.Path;
import java.util.ArrayList;
import java.util.List;
import java.util.Set;
import java.util.regex.Pattern;

/** The rules of ../shared/LANGUAGE.md that can be seen in the lines of the source; FaceTest looks at the class itself. */
public final class LanguageTest {
    private static final Path SOURCE = Path.of("src", "main", "java", "DatalogMill.java");
    /** "Some sixty lines", "some twenty fields". */
    private static final int LONGEST_METHOD = 65;
    private static final int MOST_FIELDS = 25;
    private static final Set<String> IMPORTS = Set.of("java.util.Arrays", "java.util.ArrayList", "java.util.List",
            "java.util.Iterator", "java.util.NoSuchElementException");
    private static final String THROWN = "(IllegalState|IllegalArgument|IndexOutOfBounds|Arithmetic|UnsupportedOperation"
            + "|NoSuchElement|Runtime)Exception";
    /** What the rules forbid, and what it would be. */
    private static final String[][] FORBIDDEN = {
        {"^package ", "a package line"},
        {"->|::", "a lambda or a method reference"},
        {"\\b(finally|synchronized|assert)\\b", "a word that rule 6 forbids"},
        {"\\btry \\(", "a try with resources"},
        {"\\bcatch \\((?!(final )?" + THROWN + "\\b)", "a catch of what rule 6 does not list"},
        {"\\b(boolean equals\\(Object|int hashCode\\(\\)|String toString\\(\\))", "equals, hashCode or toString of its own"},
        {"\\bwhile \\(true\\)|\\bfor \\(.*; ?;", "a loop without an end"},
        {"\\bstatic \\{", "a static initialiser block"},
        {"\"\" \\+|\\+ \"\"", "texts joined by +"},
        {"^(?!import ).*\\bjava\\.", "a class of the library by its long name"},
        {"\\b\\w+Exact\\(", "a function whose name ends in Exact"},
        {"\\bSystem\\.(?!arraycopy\\b)|\\bArrays\\.(?!(fill|copyOf|copyOfRange)\\b)|\\bMath\\.random",
            "a call that rule 4 does not list"},
        {"\\bthrow (?!new " + THROWN + "\\((\"\")?\\);)", "a throw that is not as rule 6 has it"},
        {"^ *(private )?static (?!final\\b)[\\w<>\\[\\]]+ \\w+( =.*)?;", "a static field that is not final"},
        {"[^\\x00-\\x7f]", "a sign above 127"}};

    private static int wrong = 0;

    private static void fault(int line, String text) {
        wrong++;
        System.out.println("line " + (line + 1) + ": " + text);
    }

    public static void main(String[] arguments) throws IOException {
        List<String> lines = codeOf(Files.readAllLines(SOURCE));
        for (int i = 0; i < lines.size(); i++) {
            look(i, lines.get(i));
        }
        lookAtMethods(lines);
        System.out.println(wrong + " faults of the language in " + lines.size() + " lines");
        if (wrong != 0) {
            System.exit(1);
        }
    }

    /** The lines without comments, and without what stands in texts. */
    private static List<String> codeOf(List<String> lines) {
        List<String> code = new ArrayList<>();
        boolean isComment = false;
        for (String line : lines) {
            String text = line.replaceAll("\"[^\"]*\"", "\"\"").replaceAll("//.*$", "").replaceAll("/\\*.*?\\*/", "");
            boolean isBegun = text.contains("/*");
            boolean isEnded = text.contains("*/");
            code.add(isComment || isBegun ? "" : text);
            isComment = (isComment || isBegun) && !isEnded;
        }
        return code;
    }

    private static void look(int i, String line) {
        for (String[] each : FORBIDDEN) {
            if (Pattern.compile(each[0]).matcher(line).find()) {
                fault(i, each[1]);
            }
        }
        if (line.startsWith("import ") && !IMPORTS.contains(line.replaceAll("^import |;$", ""))) {
            fault(i, "an import that rule 4 does not list");
        }
    }

    /** How long methods are, and how many fields stand in a class, by how far the lines are moved in. */
    private static void lookAtMethods(List<String> lines) {
        int begun = -1;
        String margin = "";
        int outerFields = 0;
        int innerFields = 0;
        for (int i = 0; i < lines.size(); i++) {
            String line = lines.get(i);
            if (begun < 0 && line.matches("( {4}| {8})[^ ].*[(,].*") && !line.contains("=") && !line.contains(";")) {
                begun = i;
                margin = line.replaceAll("[^ ].*", "");
            }
            if (begun >= 0 && line.equals(margin + "}")) {
                if (i - begun + 1 > LONGEST_METHOD) {
                    fault(begun, "a method of " + (i - begun + 1) + " lines");
                }
                begun = -1;
            } else if (begun < 0 && line.endsWith(";") && !line.contains("static ")) {
                outerFields += line.matches(" {4}[^ ].*") ? 1 : 0;
                innerFields += line.matches(" {8}[^ ].*") ? 1 : 0;
            } else if (begun < 0 && line.equals("    }")) {
                innerFields = 0;
            }
            if (outerFields > MOST_FIELDS || innerFields > MOST_FIELDS) {
                fault(i, "more than " + MOST_FIELDS + " fields in a class");
            }
        }
    }
}
