import java.io.IOException;
import java.nio.file.Files;
import java.nio.file.Path;
import java.util.ArrayList;
import java.util.LinkedHashSet;
import java.util.List;
import java.util.Set;

/**
 * The document, cut into its sentences: a test names the one that it tries by the words that stand
 * there, and a sentence that no test has named is wrong in the end. It is run in the project's
 * folder.
 */
final class Doc {
    private static final Path FILE = Path.of("../shared/DOC.md");

    /** A sentence, and where it stands: the title of a paragraph, or the number of a promise. */
    private record Sentence(String place, String text) {
    }

    private static final List<Sentence> SENTENCES = read();
    private static final Set<Sentence> NAMED = new LinkedHashSet<>();

    private Doc() {
    }

    private static List<Sentence> read() {
        List<Sentence> sentences = new ArrayList<>();
        String place = "";
        boolean code = false;
        for (String line : lines()) {
            code ^= line.startsWith("```");
            if (line.startsWith("## ")) {
                place = line.replaceFirst("^## (Promise )?", "").replaceFirst("(?<=^\\d+):.*", "");
            } else if (line.startsWith("Examples:") || line.equals("The constants:")) {
                place = line.replaceFirst(":.*", "");
            } else if (!code && !line.startsWith("`") && !line.startsWith("----")) {
                String title = line.replaceFirst("\\..*", "");
                boolean titled = isDescription(place) && title.length() < 30
                    && !line.startsWith("The ");
                place = titled && !title.isEmpty() ? title : place;
                add(sentences, place, titled ? line.substring(title.length()) : line);
            }
        }
        return sentences;
    }

    private static boolean isDescription(String place) {
        return !place.matches("\\d+|What it is|The public face|Examples|The constants"
            + "|Not promised");
    }

    private static List<String> lines() {
        try {
            return Files.readAllLines(FILE);
        } catch (IOException e) {
            throw new IllegalStateException("no document at " + FILE.toAbsolutePath(), e);
        }
    }

    private static void add(List<Sentence> sentences, String place, String line) {
        for (String text : line.replaceFirst("^[-.] ?", "").split("(?<=[.;]) ")) {
            if (!text.isBlank() && !place.isEmpty()) {
                sentences.add(new Sentence(place, text));
            }
        }
    }

    /** A test of these words begins: they stand in a sentence of the place. */
    static void says(String place, String words) {
        boolean found = false;
        for (Sentence sentence : SENTENCES) {
            if (sentence.place.equals(place) && sentence.text.contains(words)) {
                NAMED.add(sentence);
                found = true;
            }
        }
        Checks.due("\"" + words + "\" stands at " + place, true, String.valueOf(found)::toString);
    }

    /** Each sentence of the description and of the promises has been named by a test. */
    static void allNamed() {
        for (Sentence sentence : SENTENCES) {
            if (sentence.place.matches("\\d+") || isDescription(sentence.place)) {
                boolean named = NAMED.contains(sentence);
                Checks.due("a test of " + sentence, true, String.valueOf(named)::toString);
            }
        }
    }

    public static void main(String[] args) {
        SENTENCES.forEach(System.out::println);
    }
}
