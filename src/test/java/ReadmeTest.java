import java.io.IOException;
import java.nio.charset.StandardCharsets;
import java.nio.file.Files;
import java.nio.file.Path;
import java.nio.file.StandardCopyOption;
import java.util.ArrayList;
import java.util.List;
import java.util.Set;
import java.util.TreeSet;
import java.util.regex.Matcher;
import java.util.regex.Pattern;
import java.util.stream.Stream;

/**
 * README.md says what is so: its example is saved, compiled and run with the commands that stand
 * there, and prints what it says; its quotations, calls, promises and tests are those that there
 * are.
 */
public final class ReadmeTest {
    private static final Path SOURCE = Path.of("src/main/java/SwitchGraphs.java");
    private static final Path TESTS = Path.of("src/test/java");
    private static final Path DOCUMENT = Path.of("../shared/DOC.md");
    /** Where the example is tried, as in a project of its own. */
    private static final Path ROOM = Path.of("build/readme");

    public static void main(String[] args) throws IOException, InterruptedException {
        String readme = Files.readString(Path.of("README.md"));
        exampleAnswers(readme);
        quotationsAreTheDocuments(readme);
        callsAreTheDocuments(readme);
        testsAreThose(readme);
        oneCommandRunsAll(readme);
        Check.end();
    }

    /** The blocks of a kind in one section of the page. */
    private static List<String> blocks(String readme, String section, String kind) {
        List<String> blocks = new ArrayList<>();
        Matcher block = Pattern.compile("(?s)```" + kind + "\n(.*?)```").matcher(
                section(readme, section));
        while (block.find()) {
            blocks.add(block.group(1));
        }
        return blocks;
    }

    private static String section(String readme, String name) {
        int start = readme.indexOf("\n## " + name + "\n");
        int end = start < 0 ? -1 : readme.indexOf("\n## ", start + 1);
        return start < 0 ? "" : readme.substring(start, end < 0 ? readme.length() : end);
    }

    // ---- the example

    private static void exampleAnswers(String readme) throws IOException, InterruptedException {
        List<String> programs = blocks(readme, "Use", "java");
        List<String> commands = blocks(readme, "Use", "sh");
        Check.is("examples", programs.size(), 1);
        Check.is("blocks of commands", commands.size(), 1);
        if (!Check.allRight()) {
            return;
        }
        List<String> due = toldAnswers(programs.get(0));
        List<String> got = run(programs.get(0), commands.get(0));
        for (int k = 0; k < Math.max(due.size(), got.size()); k++) {
            Check.is("line " + (k + 1) + " that the example prints",
                    k < got.size() ? got.get(k) : "nothing",
                    k < due.size() ? due.get(k) : "nothing");
        }
    }

    /** What stands behind the lines that print, without what is in brackets. */
    private static List<String> toldAnswers(String program) {
        List<String> told = new ArrayList<>();
        for (String line : program.split("\n")) {
            if (line.contains("println")) {
                Matcher answer = Pattern.compile(".*; +// (.+?)( \\(.*\\))?").matcher(line);
                Check.is("the answer is told: " + line, answer.matches(), true);
                told.add(answer.matches() ? answer.group(1) : "");
            }
        }
        Check.is("the example tells answers", told.size() > 30, true);
        return told;
    }

    /** The lines that the commands print where the page has them given: beside the sources. */
    private static List<String> run(String program, String commands)
            throws IOException, InterruptedException {
        Path source = ROOM.resolve(SOURCE);
        Files.createDirectories(source.getParent());
        Files.copy(SOURCE, source, StandardCopyOption.REPLACE_EXISTING);
        Files.writeString(ROOM.resolve("Example.java"), program);
        Process process = new ProcessBuilder("sh", "-e", "-c", commands)
                .directory(ROOM.toFile())
                // A machine may tell of its options there, which is no answer of the example.
                .redirectError(ProcessBuilder.Redirect.INHERIT).start();
        String printed = new String(process.getInputStream().readAllBytes(),
                StandardCharsets.UTF_8);
        Check.is("the commands end with", process.waitFor(), 0);
        return printed.lines().toList();
    }

    // ---- quotations and tables

    private static void quotationsAreTheDocuments(String readme) throws IOException {
        String document = Files.readString(DOCUMENT).replaceAll("\\s+", " ");
        int quoted = 0;
        for (String line : readme.split("\n")) {
            if (line.startsWith("> ")) {
                Check.is("quoted: " + line, document.contains(line.substring(2)), true);
                quoted++;
            }
        }
        Check.is("the page quotes the document", quoted > 0, true);
    }

    private static void callsAreTheDocuments(String readme) throws IOException {
        List<String> promises = new ArrayList<>();
        Matcher heading = Pattern.compile("\n## Promise \\d+: (.*)").matcher(
                Files.readString(DOCUMENT));
        while (heading.find()) {
            promises.add(heading.group(1).replace("A new object", "SwitchGraphs"));
        }
        Matcher row = Pattern.compile("\n\\| (`.*`) \\| (\\d+)(?: (?:to|and) (\\d+))? \\|").matcher(
                section(readme, "Use"));
        int told = 0;
        while (row.find()) {
            int first = Integer.parseInt(row.group(2));
            int last = row.group(3) == null ? first : Integer.parseInt(row.group(3));
            Check.is("the rows follow one another", first, told + 1);
            Check.is("promises of a row", last >= first && last <= promises.size(), true);
            if (!Check.allRight()) {
                return;
            }
            Check.is("calls of promises " + first + " to " + last, row.group(1),
                    "`" + String.join("`, `", promises.subList(first - 1, last)) + "`");
            told = last;
        }
        Check.is("promises that are told", told, 48);
    }

    private static void testsAreThose(String readme) throws IOException {
        Set<String> told = new TreeSet<>();
        Matcher row = Pattern.compile("\n\\| `(\\w+Test)` \\|").matcher(section(readme, "Tests"));
        while (row.find()) {
            told.add(row.group(1));
        }
        Set<String> there = new TreeSet<>();
        try (Stream<Path> files = Files.list(TESTS)) {
            files.map(file -> file.getFileName().toString())
                    .filter(name -> name.endsWith("Test.java"))
                    .forEach(name -> there.add(name.replace(".java", "")));
        }
        Check.is("tests", String.join(" ", told), String.join(" ", there));
    }

    private static void oneCommandRunsAll(String readme) {
        List<String> commands = blocks(readme, "Tests", "sh");
        Check.is("the command", String.join("", commands), ".ci/run\n");
        Check.is("it can be run", Files.isExecutable(Path.of(".ci/run")), true);
    }
}
