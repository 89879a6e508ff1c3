import java.io.IOException;
import java.nio.file.Files;
import java.nio.file.Path;
import java.util.ArrayList;
import java.util.LinkedHashSet;
import java.util.List;
import java.util.Set;

/**
 * The document, cut into its sentences: a test names the one that it tries by the words that stand
 * there, and a sentence that no test has named is wrong in the end. It is run in the project's
 * folder.
 */
final class Doc {
    private static final Path FILE = Path.of("../shared/DOC.md");

    /** A sentence, and where it stands: the title of a paragraph, or the number of a promise. */
    private record Sentence(String place, String text) {
    }

    private static final List<Sentence> SENTENCES = read();
    private static final Set<Sentence> NAMED = new LinkedHashSet<>();

    private Doc() {
    }

    private static List<Sentence> read() {
        List<Sentence> sentences = new ArrayList<>();
        String place = "";
        boolean code = false;
        for (String line : lines()) {
            code ^= line.startsWith("```");
            if (line.startsWith("## ")) {
                place = line.replaceFirst("^## (Promise )?", "").replaceFirst("(?<=^\\d+):.*", "");
            } else if (line.startsWith("Examples:") || line.equals("The constants:")) {
                place = line.replaceFirst(":.*", "");
            } else if (!code && !line.startsWith("`") && !line.startsWith("----")) {
                String title = line.replaceFirst("\\..*", "");
                boolean titled = isDescription(place) && title.length() < 30
                    && !line.startsWith("The ");
                place = titled && !title.isEmpty() ? title : place;
                add(sentences, place, titled ? line.substring(title.length()) : line);
            }
        }
        return sentences;
    }

    private static boolean isDescription(String place) {
        return !place.matches("\\d+|What it is|The public face|Examples|The constants"
            + "|Not promised");
    }

    private static List<String> lines() {
        try {
            return Files.readAllLines(FILE);
        } catch (IOException e) {
            throw new IllegalStateException("no document at " + FILE.toAbsolutePath(), e);
        }
    }

    private static void add(List<Sentence> sentences, String place, String line) {
        for (String text : line.replaceFirst("^[-.] ?", "").split("(?<=[.;]) ")) {
            if (!text.isBlank() && !place.isEmpty()) {
                sentences.add(new Sentence(place, text));
            }
        }
    }

    /** A test of these words begins: they stand in a sentence of the place. */
    static void says(String place, String words) {
        boolean found = false;
        for (Sentence sentence : SENTENCES) {
            if (sentence.place.equals(place) && sentence.text.contains(words)) {
                NAMED.add(sentence);
                found = true;
            }
        }
        Checks.due("\"" + words + "\" stands at " + place, true, String.valueOf(found)::toString);
    }

    /**
     * Each sentence of the document has been named by a test, from its first line to its last, but
     * the examples: ExamplesTest makes every call of them.
     */
    static void allNamed() {
        for (Sentence sentence : SENTENCES) {
            if (!sentence.place.equals("Examples")) {
                boolean named = NAMED.contains(sentence);
                Checks.due("a test of " + sentence, true, String.valueOf(named)::toString);
            }
        }
    }

    /** The lines behind a heading, up to the next one that begins with two signs of number. */
    private static List<String> behind(String heading) {
        List<String> found = new ArrayList<>();
        boolean in = false;
        for (String line : lines()) {
            in = line.startsWith("## ") ? line.startsWith(heading) : in;
            if (in && !line.startsWith("## ")) {
                found.add(line);
            }
        }
        return found;
    }

    /** What stands in the class that "The public face" prints, a line each. */
    static List<String> face() {
        return behind("## The public face").stream().filter(l -> l.startsWith("    public "))
            .map(l -> l.strip().replaceFirst(";$", "")).toList();
    }

    /** The signatures that the promises begin with. */
    static List<String> signatures() {
        return behind("## Promise").stream().filter(l -> l.startsWith("`"))
            .map(l -> l.replace("`", "")).toList();
    }

    /** The examples, each in one line. */
    static List<String> examples() {
        List<String> found = new ArrayList<>();
        boolean in = false;
        for (String line : lines()) {
            in = line.startsWith("Examples:") || in && !line.startsWith("The constants:");
            if (in && line.matches("\\d\\. .*")) {
                found.add(line);
            } else if (in && !found.isEmpty()) {
                found.set(found.size() - 1, found.get(found.size() - 1) + " " + line);
            }
        }
        return found;
    }

    public static void main(String[] args) {
        SENTENCES.forEach(System.out::println);
    }
}
