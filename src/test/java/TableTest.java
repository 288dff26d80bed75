import java.io.IOException;
import java.nio.file.Files;
import java.nio.file.Path;
import java.util.Set;
import java.util.TreeSet;
import java.util.regex.Matcher;
import java.util.regex.Pattern;
import java.util.stream.Stream;

/** BOUNDARIES.md: its sentences are the document's, its tests are there, and no test of a boundary case is missing in it. */
public final class TableTest {
    private static final Path TESTS = Path.of("src/test/java");

    public static void main(String[] args) throws IOException {
        String document = plain(Files.readString(Path.of("../shared/DOC.md")));
        Set<String> written = written();
        Set<String> listed = new TreeSet<>();
        Pattern row = Pattern.compile("\\| (.*) \\| (`Edge.*`) \\|");
        for (String line : Files.readAllLines(Path.of("BOUNDARIES.md"))) {
            Matcher m = row.matcher(line);
            if (!m.matches()) {
                continue;
            }
            String sentence = plain(m.group(1).replace("\\|", "|"));
            Check.due("the document says: " + sentence, document.contains(sentence), true);
            for (String test : m.group(2).split(", ")) {
                String name = test.replace("`", "");
                listed.add(name);
                Check.due("there is a test " + name, written.contains(name), true);
            }
        }
        for (String name : written) {
            Check.due("the table lists " + name, listed.contains(name), true);
        }
        Check.due("enough of them: " + listed.size(), listed.size() >= 100, true);
        Check.close("TableTest");
    }

    private static String plain(String text) {
        return text.replaceAll("\\s+", " ").trim();
    }

    /** Class and method of each test of a boundary case, as its text has it. */
    private static Set<String> written() throws IOException {
        Set<String> found = new TreeSet<>();
        Pattern head = Pattern.compile("    private static void (\\w+)\\(\\) \\{");
        try (Stream<Path> files = Files.list(TESTS)) {
            for (Path file : (Iterable<Path>) files::iterator) {
                String name = file.getFileName().toString();
                if (!name.matches("Edge\\w+Test\\.java")) {
                    continue;
                }
                String owner = name.replace(".java", "");
                String text = Files.readString(file);
                Check.due(owner + " runs all that it has", text.contains("Edges.run(" + owner + ".class);"), true);
                Matcher m = head.matcher(text);
                while (m.find()) {
                    found.add(owner + "." + m.group(1));
                }
            }
        }
        return found;
    }
}
