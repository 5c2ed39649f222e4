import java.io.IOException;
import java.nio.file.Files;
import java.nio.file.Path;
import java.util.ArrayList;
import java.util.HashMap;
import java.util.LinkedHashMap;
import java.util.List;
import java.util.Map;
import java.util.Set;
import java.util.TreeSet;

/**
 * The boundary cases of the document, sentence by sentence, as src/test/boundaries.txt tells them.
 * Each sentence of the document must stand there, with a test of its own or among those that name
 * no boundary case.
 */
public final class BoundaryTests {
    private static final Path DOCUMENT = Path.of("../shared/DOC.md");
    private static final Path BOUNDARIES = Path.of("src/test/boundaries.txt");
    private static final Set<String> UNTESTED_PARTS = Set.of("The public face", "Not promised");
    /** What is said here holds for every part of the document. */
    private static final String EVERYWHERE = "";

    private final Map<String, List<String>> sentences = sentencesOf(Files.readString(DOCUMENT));
    private final Map<String, Set<String>> quoted = new LinkedHashMap<>();
    private final Map<String, String> scenes = new HashMap<>();
    private String part = EVERYWHERE;
    private Script script;
    private int tests;
    private int checks;

    private BoundaryTests() throws IOException {
    }

    public static void main(String[] args) throws IOException {
        BoundaryTests tests = new BoundaryTests();
        for (String line : Files.readAllLines(BOUNDARIES)) {
            tests.read(line.trim());
        }
        tests.endTest();
        tests.checkThatNothingIsLeftOut();
        System.out.println(tests.tests + " sentences with a test, " + tests.checks + " answers");
        Checks.end();
    }

    /** The sentences of each part of the document; a semicolon ends one too. */
    private static Map<String, List<String>> sentencesOf(String document) {
        Map<String, List<String>> sentences = new LinkedHashMap<>();
        String[] parts = document.split("(?m)^## ");
        for (int i = 1; i < parts.length; i++) {
            int end = parts[i].indexOf('\n');
            List<String> found = new ArrayList<>();
            for (String paragraph : parts[i].substring(end).split("\n\\s*\n|\n(?=- )")) {
                String text = paragraph.trim().replaceAll("\\s+", " ");
                boolean isSignature = text.startsWith("`") && text.endsWith("`");
                if (!text.isEmpty() && !text.startsWith("---- ") && !isSignature) {
                    found.addAll(List.of(text.split("(?<=[.;]) ")));
                }
            }
            sentences.put(parts[i].substring(0, end).trim(), found);
        }
        return sentences;
    }

    private void read(String line) {
        if (line.startsWith("## ")) {
            endTest();
            part = line.substring(3);
            Checks.part(part);
            Checks.due("a part of the document", sentences.containsKey(part), true);
        } else if (script == null && line.startsWith("scene ")) {
            int colon = line.indexOf(": ");
            scenes.put(line.substring(6, colon), line.substring(colon + 2));
        } else if (line.startsWith("-- ")) {
            quote(line.substring(3));
        } else if (line.startsWith("== ")) {
            endTest();
            quote(line.substring(3));
            Checks.part(part + ", \"" + line.substring(3) + "\"");
            script = new Script(scenes);
            tests++;
        } else if (!line.isEmpty() && !line.startsWith("#")) {
            step(line);
        }
    }

    private void quote(String sentence) {
        boolean isNew = quoted.computeIfAbsent(part, p -> new TreeSet<>()).add(sentence);
        Checks.due("the sentence is quoted once: " + sentence, isNew, true);
        boolean isKnown = part.equals(EVERYWHERE)
                ? sentences.values().stream().anyMatch(s -> s.contains(sentence))
                : sentences.getOrDefault(part, List.of()).contains(sentence);
        Checks.due("the document has: " + sentence, isKnown, true);
    }

    /** A line that cannot be run counts as a wrong answer and does not stop the others. */
    private void step(String line) {
        try {
            script.line(line);
        } catch (RuntimeException e) {
            Checks.due("the line " + line, e.toString(), "an end");
        }
    }

    private void endTest() {
        if (script != null) {
            Checks.due("the test compares an answer", script.checks() > 0, true);
            checks += script.checks();
        }
        script = null;
    }

    private void checkThatNothingIsLeftOut() {
        Set<String> everywhere = quoted.getOrDefault(EVERYWHERE, Set.of());
        for (String name : sentences.keySet()) {
            Checks.part(name);
            for (String sentence : sentences.get(name)) {
                boolean stands = everywhere.contains(sentence)
                        || quoted.getOrDefault(name, Set.of()).contains(sentence);
                Checks.due("in boundaries.txt: " + sentence, stands || UNTESTED_PARTS.contains(name), true);
            }
        }
    }
}
