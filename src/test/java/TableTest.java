import java.io.IOException;
import java.nio.file.Files;
import java.nio.file.Path;
import java.util.List;
import java.util.Set;
import java.util.TreeSet;
import java.util.regex.Matcher;
import java.util.regex.Pattern;
import java.util.stream.Stream;

/**
 * BOUNDARIES.md and SENTENCES.md: their sentences are the document's, their tests are there, no test of a sentence is
 * missing in them, and no sentence of the document is.
 */
public final class TableTest {
    private static final Path TESTS = Path.of("src/test/java");
    private static final Pattern ROW = Pattern.compile("\\| (.*) \\| (`\\w+Test\\.\\w+`(?:, `\\w+Test\\.\\w+`)*) \\|");
    // What asks for no test of its own: SENTENCES.md says why.
    private static final List<String> FREE = List.of(
        "```java .*? ```", "```(text)?", "#+ What it is", "#+ The public face", "#+ Terms", "# FeastRules",
        "## Promise \\d+: (A new object|\\w+)", "`(int|boolean) \\w+\\([^)]*\\)`:", "(?<= )I{1,3}\\.(?= )", "The constants:",
        "Ahead of the calls (`\\w+`,? )+the interface says: ---- [\\w ]+\\.", "## Not promised",
        "How the state is held .*? hashCode\\.", "Use of one object from several threads .*? safe\\.",
        "and nothing about an object after its 512th call\\.");

    private static String document;
    private static boolean[] held;

    public static void main(String[] args) throws IOException {
        document = plain(Files.readString(Path.of("../shared/DOC.md")));
        held = new boolean[document.length()];
        Set<String> listed = new TreeSet<>();
        rows("BOUNDARIES.md", listed);
        rows("SENTENCES.md", listed);
        Set<String> written = written("\\w+Test\\.java");
        for (String name : listed) {
            Check.due("there is a test " + name, written.contains(name), true);
        }
        for (String name : written("(Edge\\w+|Sentence)Test\\.java")) {
            Check.due("a table lists " + name, listed.contains(name), true);
        }
        Check.due("enough of them: " + listed.size(), listed.size() >= 120, true);
        leftOver();
        Check.close("TableTest");
    }

    private static String plain(String text) {
        return text.replaceAll("\\s+", " ").trim();
    }

    private static void rows(String table, Set<String> listed) throws IOException {
        for (String line : Files.readAllLines(Path.of(table))) {
            Matcher m = ROW.matcher(line);
            if (!m.matches()) {
                boolean head = line.equals("| sentence | test |") || line.equals("|---|---|");
                Check.due(table + ", a row: " + line, line.startsWith("|") && !head, false);
                continue;
            }
            hold(plain(m.group(1).replace("\\|", "|")));
            for (String test : m.group(2).split(", ")) {
                listed.add(test.replace("`", ""));
            }
        }
    }

    private static void hold(String sentence) {
        int place = document.indexOf(sentence);
        Check.due("the document says: " + sentence, place >= 0, true);
        if (place < 0) {
            return;
        }
        Check.due("the document says it once: " + sentence, document.indexOf(sentence, place + 1), -1);
        hold(place, place + sentence.length());
    }

    private static void hold(int from, int to) {
        for (int i = from; i < to; i++) {
            held[i] = true;
        }
    }

    /** What neither a row nor FREE has; signs between two rows are no words. */
    private static void leftOver() {
        for (String free : FREE) {
            Matcher m = Pattern.compile(free).matcher(document);
            boolean there = false;
            while (m.find()) {
                there = true;
                hold(m.start(), m.end());
            }
            Check.due("the document has what is left free: " + free, there, true);
        }
        StringBuilder words = new StringBuilder();
        for (int i = 0; i <= document.length(); i++) {
            if (i < document.length() && !held[i]) {
                words.append(document.charAt(i));
            } else if (words.length() > 0) {
                Check.due("a test holds: " + words, words.toString().matches("[:,;. ]*"), true);
                words.setLength(0);
            }
        }
    }

    /** Class and method of each test, as the texts of these files have it. */
    private static Set<String> written(String files) throws IOException {
        Set<String> found = new TreeSet<>();
        Pattern head = Pattern.compile("    private static void (\\w+)\\(\\) \\{");
        try (Stream<Path> all = Files.list(TESTS)) {
            for (Path file : (Iterable<Path>) all::iterator) {
                String name = file.getFileName().toString();
                if (!name.matches(files)) {
                    continue;
                }
                String owner = name.replace(".java", "");
                String text = Files.readString(file);
                if (owner.matches("(Edge\\w+|Sentence)Test")) {
                    Check.due(owner + " runs all that it has", text.contains("Edges.run(" + owner + ".class);"), true);
                }
                Matcher m = head.matcher(text);
                while (m.find()) {
                    found.add(owner + "." + m.group(1));
                }
            }
        }
        return found;
    }
}
