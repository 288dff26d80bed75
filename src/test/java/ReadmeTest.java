import java.io.IOException;
import java.lang.reflect.Method;
import java.lang.reflect.Modifier;
import java.net.URL;
import java.net.URLClassLoader;
import java.nio.file.Files;
import java.nio.file.Path;
import java.util.ArrayList;
import java.util.Comparator;
import java.util.List;
import java.util.Set;
import java.util.TreeSet;
import java.util.regex.Matcher;
import java.util.regex.Pattern;
import java.util.stream.Stream;
import javax.tools.JavaCompiler;
import javax.tools.ToolProvider;

/** README.md: the calls that it shows compile, in their order, and answer as it says. */
public final class ReadmeTest {
    private static final Path README = Path.of("README.md");
    // A call, then its answer; what stands behind the answer is for the reader.
    private static final Pattern ASKED = Pattern.compile("((?:x\\.|read\\().*\\)); // (-?\\d+|true|false|NONE)(?:: .*)?");

    private final StringBuilder helpers = new StringBuilder();
    private final StringBuilder calls = new StringBuilder();
    private final Set<String> shown = new TreeSet<>();
    private int asked;

    public static void main(String[] args) throws Exception {
        ReadmeTest test = new ReadmeTest();
        test.gather(Files.readString(README));
        test.allAreShown();
        Path folder = Files.createTempDirectory("readme");
        try {
            test.run(folder);
        } finally {
            remove(folder);
        }
        Check.close("ReadmeTest");
    }

    /** Blocks are code; outside of them no call has numbers, as no test would hold it there. */
    private void gather(String text) {
        Matcher blocks = Pattern.compile("(?ms)^```java\n(.*?)^```$").matcher(text);
        int found = 0;
        while (blocks.find()) {
            found++;
            if (blocks.group(1).startsWith("static ")) {
                helpers.append(blocks.group(1));
            } else {
                blocks.group(1).lines().forEach(this::line);
            }
        }
        Check.due("blocks of code", found >= 8, true);
        Matcher loose = Pattern.compile("\\w+\\(-?\\d[^)]*\\)").matcher(blocks.replaceAll(""));
        while (loose.find()) {
            Check.due("a call outside of the blocks: " + loose.group(), 1, 0);
        }
    }

    private void line(String line) {
        Matcher m = ASKED.matcher(line);
        if (!m.matches()) {
            Check.due("a call with no answer: " + line, line.contains("x."), false);
            calls.append(line).append('\n');
            return;
        }
        asked++;
        Matcher names = Pattern.compile("x\\.(\\w+)\\(").matcher(m.group(1));
        while (names.find()) {
            shown.add(names.group(1));
        }
        String want = m.group(2).equals("NONE") ? "FeastRules.NONE" : m.group(2);
        String told = m.group(1).replace("\\", "\\\\").replace("\"", "\\\"");
        calls.append("due(\"").append(told).append("\", ").append(m.group(1)).append(", ").append(want).append(");\n");
    }

    private void allAreShown() {
        for (Method m : FeastRules.class.getDeclaredMethods()) {
            if (Modifier.isPublic(m.getModifiers())) {
                Check.due("README.md shows " + m.getName(), shown.contains(m.getName()), true);
            }
        }
    }

    private String program() {
        return "public final class ReadmeCalls {\n"
            + "static final java.util.List<String> answers = new java.util.ArrayList<>();\n"
            + "static void due(String call, int got, int want) { answers.add(call + \"\\n\" + got + \"\\n\" + want); }\n"
            + "static void due(String call, boolean got, boolean want) { due(call, got ? 1 : 0, want ? 1 : 0); }\n"
            + helpers
            + "public static java.util.List<String> run() {\n" + calls + "return answers;\n}\n}\n";
    }

    private void run(Path folder) throws Exception {
        Path source = folder.resolve("ReadmeCalls.java");
        Files.writeString(source, program());
        JavaCompiler compiler = ToolProvider.getSystemJavaCompiler();
        int failed = compiler.run(null, System.out, System.out, "-d", folder.toString(),
            "-cp", System.getProperty("java.class.path"), source.toString());
        Check.due("what README.md shows compiles", failed, 0);
        if (failed != 0) {
            return;
        }
        try (URLClassLoader loader = new URLClassLoader(new URL[] {folder.toUri().toURL()})) {
            List<?> answers = (List<?>) loader.loadClass("ReadmeCalls").getMethod("run").invoke(null);
            Check.due("answers of README.md", answers.size(), asked);
            for (Object answer : answers) {
                String[] told = answer.toString().split("\n");
                Check.due("README.md: " + told[0], Long.parseLong(told[1]), Long.parseLong(told[2]));
            }
        }
    }

    private static void remove(Path folder) throws IOException {
        List<Path> inside = new ArrayList<>();
        try (Stream<Path> files = Files.walk(folder)) {
            files.sorted(Comparator.reverseOrder()).forEach(inside::add);
        }
        for (Path file : inside) {
            Files.delete(file);
        }
    }
}
