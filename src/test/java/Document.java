import java.io.IOException;
import java.nio.file.Files;
import java.nio.file.Path;
import java.util.ArrayList;
import java.util.Collections;
import java.util.List;

/** The document's sentences from its terms to its last promise. */
final class Document {
    private static final Path FILE = Path.of("../shared/DOC.md");
    private static final String FIRST_LINE = "## Terms";
    private static final String LINE_BEHIND = "## Not promised";

    /** Sentences that name no boundary case. */
    private static final List<String> PLAIN = List.of(
            "Conventions:",
            "All numbers are integers, except where double is named.",
            "The map:",
            "A cell is land or water.",
            "Clues:",
            "A leg has a bearing, and is one of the following; it leads from a cell to the cells at which it can end:",
            "A clue is in use or not.",
            "Some cells are dug.",
            "Setup text:",
            "Its grammar is:",
            "Changes:",
            "The constants: `SYNTAX_ERROR = -2`:",
            "A new object",
            "Returns this number.",
            "Explains why a cell is no candidate.",
            "Returns the paces of this leg in that walk.",
            "Lets the team walk to a cell by the fewest paces.",
            "Takes a clue into use or out of use.",
            "Sets the turn of a bend.",
            "Computes a checksum.",
            "Returns the checksum.");

    private Document() {
    }

    /** Each sentence told in the tests must stand in the document, and each of its own be told or be plain. */
    static void compareWith(List<String> told) throws IOException {
        String text = Files.readString(FILE).replaceAll(" +", " ");
        for (String sentence : told) {
            Check.answers(true, "the document has: " + sentence, () -> text.contains(sentence));
        }
        List<String> sentences = sentencesOf(text);
        for (String sentence : sentences) {
            int places = Collections.frequency(sentences, sentence);
            Check.answers(true, "as many tests tell as it stands there: " + sentence,
                    () -> PLAIN.contains(sentence) || told.stream().filter(sentence::contains).count() >= places);
        }
    }

    private static List<String> sentencesOf(String text) {
        List<String> sentences = new ArrayList<>();
        String promises = text.substring(text.indexOf(FIRST_LINE), text.indexOf(LINE_BEHIND));
        for (String line : promises.split("\n")) {
            for (String sentence : line.trim().split("(?<=[.:;]) (?=[A-Z@])")) {
                if (!isName(sentence)) {
                    sentences.add(sentence);
                }
            }
        }
        return sentences;
    }

    /** Heads, and the names of methods, parameters and constants. */
    private static boolean isName(String sentence) {
        return sentence.isEmpty() || sentence.startsWith("#") || sentence.startsWith("`")
                || sentence.startsWith("- `");
    }
}
