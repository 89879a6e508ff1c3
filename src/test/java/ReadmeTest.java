import java.io.IOException;
import java.net.URL;
import java.net.URLClassLoader;
import java.nio.file.Files;
import java.nio.file.Path;
import java.util.ArrayList;
import java.util.List;
import java.util.Map;
import java.util.TreeMap;
import java.util.TreeSet;
import java.util.regex.Matcher;
import java.util.regex.Pattern;
import java.util.stream.Stream;
import javax.tools.ToolProvider;

/**
 * What README.md says: its lines of Java compile, and each answers the number that its comment
 * begins with; its table names every test. It is run in the project's folder.
 */
final class ReadmeTest {
    private static final Path README = Path.of("README.md");
    private static final Path TESTS = Path.of("src/test/java");
    private static final Pattern ANSWERED =
        Pattern.compile("\\s*int (\\w+) = .*; *// (-?\\d+): .*");
    private static final Pattern NAMED = Pattern.compile("\\| `(\\w+Test)` \\|.*");

    private final List<String> source = new ArrayList<>();
    private final Map<String, Integer> due = new TreeMap<>();
    private final Map<String, Integer> answers = new TreeMap<>();

    public static void main(String[] args) throws Exception {
        List<String> lines = Files.readAllLines(README);
        ReadmeTest test = new ReadmeTest();
        test.read(lines);
        Path folder = Files.createTempDirectory("readme");
        try {
            test.run(folder);
        } finally {
            delete(folder);
        }
        Checks.due("the answers of " + README, test.due, () -> test.answers);
        Checks.due("the table of the tests", tests(), () -> named(lines));
        Checks.end();
    }

    private static void delete(Path folder) throws IOException {
        try (Stream<Path> files = Files.list(folder)) {
            for (Path file : files.toList()) {
                Files.delete(file);
            }
        }
        Files.delete(folder);
    }

    /** Takes the lines of Java, with one behind each answer that keeps it, and what is due. */
    private void read(List<String> lines) {
        boolean code = false;
        int calls = 0;
        for (String line : lines) {
            if (line.startsWith("```")) {
                code = line.equals("```java");
            } else if (code) {
                source.add(line);
                calls += line.matches("\\s*int \\w+ = recorder\\..*") ? 1 : 0;
                Matcher answered = ANSWERED.matcher(line);
                if (answered.matches()) {
                    String name = answered.group(1);
                    source.add("answers.put(\"" + name + "\", " + name + ");");
                    due.put(name, Integer.valueOf(answered.group(2)));
                }
            }
        }
        Checks.due("lines that tell their answer", calls, due::size);
    }

    private void run(Path folder) throws Exception {
        source.add(0, "public final class Readme {");
        source.add(1, "public static void run(java.util.Map<String, Integer> answers) {");
        source.add("} }");
        Path file = Files.write(folder.resolve("Readme.java"), source);
        int failed = ToolProvider.getSystemJavaCompiler().run(null, null, null, "-cp",
            System.getProperty("java.class.path"), "-d", folder.toString(), file.toString());
        Checks.due("the lines of " + README + " compile", 0, () -> failed);
        if (failed == 0) {
            URL[] places = {folder.toUri().toURL()};
            try (URLClassLoader loader = new URLClassLoader(places)) {
                loader.loadClass("Readme").getMethod("run", Map.class).invoke(null, answers);
            }
        }
    }

    private static TreeSet<String> tests() throws IOException {
        TreeSet<String> found = new TreeSet<>();
        try (Stream<Path> files = Files.list(TESTS)) {
            for (Path file : files.toList()) {
                String name = file.getFileName().toString().replace(".java", "");
                if (name.endsWith("Test")) {
                    found.add(name);
                }
            }
        }
        return found;
    }

    private static TreeSet<String> named(List<String> lines) {
        TreeSet<String> found = new TreeSet<>();
        for (String line : lines) {
            Matcher row = NAMED.matcher(line);
            if (row.matches()) {
                found.add(row.group(1));
            }
        }
        return found;
    }
}
