import java.io.IOException;
import java.io.UncheckedIOException;
import java.nio.file.Files;
import java.nio.file.Path;
import java.util.ArrayList;
import java.util.LinkedHashMap;
import java.util.List;
import java.util.Map;
import java.util.Set;
import java.util.TreeSet;

/**
 * Tests of single sentences of the document. Each test names its promise and quotes its sentence;
 * the quotation is looked up in the document, and no sentence there may be left without a test.
 */
final class Sentence {
    private static final Path DOCUMENT = Path.of("../shared/DOC.md");
    private static final Set<String> SECTIONS = Set.of("TEXT", "GRAPHS", "SWITCHES", "PATHS",
            "ERRORS AND EDITS", "The constants:");
    private static final Map<String, List<String>> LINES = read();
    private static final Map<String, List<String>> QUOTED = new LinkedHashMap<>();
    private static final Set<String> PROMISES = new TreeSet<>();
    private static int tests = 0;

    private Sentence() {
    }

    /**
     * Runs the test of a sentence.
     *
     * @param place the promise, as "Promise 3"; with the section that the sentence stands in, as
     *     "Promise 3, TEXT", if it does not stand under the promise's own heading
     */
    static void test(String place, String quotation, Check.Call calls) {
        tests++;
        String[] parts = place.split(", ");
        PROMISES.add(parts[0]);
        Check.about(place + ", \"" + quotation + "\"");
        quote(parts[parts.length - 1], quotation);
        int before = Check.made();
        try {
            calls.run();
        } catch (RuntimeException e) {
            e.printStackTrace(System.out);
            Check.is("the test runs to its end", false, true);
        }
        Check.is("the test checks something", Check.made() > before, true);
        Check.about("");
    }

    /** A sentence that names nothing that calls could answer in another way. */
    static void withoutCalls(String section, String quotation) {
        Check.about(section + ", \"" + quotation + "\"");
        quote(section, quotation);
        Check.about("");
    }

    private static void quote(String section, String quotation) {
        String text = String.join(" ", LINES.getOrDefault(section, List.of()));
        Check.is("the document says so", text.contains(quotation), true);
        QUOTED.computeIfAbsent(section, key -> new ArrayList<>()).add(quotation);
    }

    static void everyOneIsTested() {
        int sentences = 0;
        for (String section : LINES.keySet()) {
            for (String line : LINES.get(section)) {
                for (String sentence : line.split("(?<=\\.) (?=[A-Z\"@])")) {
                    Check.is("quoted: " + section + ", " + sentence, isQuoted(section, sentence),
                            true);
                    sentences++;
                }
            }
        }
        Check.is("the document has its sentences", sentences > 150, true);
        System.out.println(tests + " tests of " + sentences + " sentences");
        for (int k = 1; k <= 48; k++) {
            Check.is("promise " + k + " is named", PROMISES.contains("Promise " + k), true);
        }
    }

    private static boolean isQuoted(String section, String sentence) {
        for (String quotation : QUOTED.getOrDefault(section, List.of())) {
            if (sentence.contains(quotation) || quotation.contains(sentence)) {
                return true;
            }
        }
        return false;
    }

    /** The lines of the document by their sections, with single spaces. */
    private static Map<String, List<String>> read() {
        Map<String, List<String>> lines = new LinkedHashMap<>();
        String section = "";
        for (String line : allLines()) {
            String text = line.trim().replaceAll(" +", " ");
            if (text.startsWith("## ")) {
                section = text.substring(3).replaceAll("^(Promise \\d+):.*", "$1");
            } else if (SECTIONS.contains(text)) {
                section = text;
            } else if (!text.matches("|#.*|----.*|`.*") && !section.equals("The public face")) {
                lines.computeIfAbsent(section, key -> new ArrayList<>()).add(text);
            }
        }
        return lines;
    }

    private static List<String> allLines() {
        try {
            return Files.readAllLines(DOCUMENT);
        } catch (IOException e) {
            throw new UncheckedIOException(e);
        }
    }
}
