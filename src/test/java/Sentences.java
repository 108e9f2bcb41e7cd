import java.io.IOException;
import java.nio.file.Files;
import java.nio.file.Path;
import java.util.ArrayList;
import java.util.LinkedHashMap;
import java.util.List;
import java.util.Map;

/**
 * Tests that stand each for a sentence of ../shared/DOC.md, or for a part of one. What a test quotes has to stand in
 * the section, and each sentence of a section that was begun has to have a test, so that none is forgotten.
 */
abstract class Sentences extends Checks {
    private static final Path DOCUMENT = Path.of("..", "shared", "DOC.md");
    private static final Map<String, List<String>> SENTENCES = read();
    private static final Map<String, List<String>> QUOTED = new LinkedHashMap<>();
    private static String section = "";

    interface Test {
        void run();
    }

    /** The tests that follow are of the section with this heading. */
    static void section(String heading) {
        section = heading;
        QUOTED.putIfAbsent(heading, new ArrayList<>());
        if (!SENTENCES.isEmpty() && !SENTENCES.containsKey(heading)) {
            fault("there is no section: " + heading);
        }
    }

    static void says(String quote, Test test) {
        isFree(quote);
        place = section + ": " + quote;
        int before = checks;
        try {
            test.run();
        } catch (RuntimeException e) {
            fault(place + ": the test was ended by " + e);
        }
        if (checks == before) {
            fault(place + ": the test tested nothing");
        }
    }

    /** A sentence that asks for nothing that a call could answer. */
    static void isFree(String quote) {
        QUOTED.get(section).add(quote);
        if (!SENTENCES.isEmpty() && SENTENCES.getOrDefault(section, List.of()).stream().noneMatch(s -> s.contains(quote))) {
            fault(section + " does not say: " + quote);
        }
    }

    /** Looks for sentences without a test, and ends as Checks does. */
    static void endOfSentences() {
        for (String heading : QUOTED.keySet()) {
            for (String sentence : SENTENCES.getOrDefault(heading, List.of())) {
                if (QUOTED.get(heading).stream().noneMatch(sentence::contains)) {
                    fault(heading + ": no test of: " + sentence);
                }
            }
        }
        if (SENTENCES.isEmpty()) {
            System.out.println("(" + DOCUMENT + " is not there: what the tests quote was not looked up)");
        }
        end();
    }

    private static void fault(String text) {
        wrong++;
        System.out.println(text);
    }

    private static Map<String, List<String>> read() {
        Map<String, List<String>> found = new LinkedHashMap<>();
        if (!Files.isReadable(DOCUMENT)) {
            return found;
        }
        try {
            List<String> now = new ArrayList<>();
            for (String line : Files.readAllLines(DOCUMENT)) {
                if (line.startsWith("## ")) {
                    now = new ArrayList<>();
                    found.put(line.substring(3), now);
                } else if (!line.isBlank()) {
                    // What a call looks like is FaceTest's; here is what is said of it.
                    String said = line.replaceFirst("^`[^`]*\\([^`]*`: ", "");
                    now.addAll(List.of(said.split("(?<=[.)]) (?=[A-Z(])")));
                }
            }
        } catch (IOException e) {
            throw new IllegalStateException(e);
        }
        return found;
    }
}
