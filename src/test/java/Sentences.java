import java.io.IOException;
import java.nio.file.Files;
import java.nio.file.Path;
import java.util.Set;
import java.util.TreeSet;
import java.util.function.Predicate;

/**
 * The sentences of some sections of ../shared/DOC.md. A test quotes each of them ahead of the calls that hold it; a
 * sentence that none quotes, or a quotation that is not in the document, is a failure.
 */
final class Sentences {
    private static final Path DOCUMENT = Path.of("../shared/DOC.md");

    private final Due due;
    private final Set<String> sentences = new TreeSet<>();
    private final Set<String> quoted = new TreeSet<>();
    private final boolean isThere = Files.exists(DOCUMENT);
    private String section = "";

    Sentences(Due due, Predicate<String> sections) throws IOException {
        this.due = due;
        if (!isThere) {
            System.out.println(DOCUMENT + " is not there: the quotations are not compared with it");
            return;
        }
        String text = Files.readString(DOCUMENT).replaceAll("(?s)```.*?```", "");
        for (String line : text.split("\n")) {
            if (line.startsWith("#")) {
                section = line.replaceFirst("#+ *", "");
            } else if (line.matches("[A-Z ]+")) {
                section = line;
            } else if (sections.test(section)) {
                split(line);
            }
        }
    }

    private void split(String line) {
        String plain = line.replaceFirst("^`[^`]*\\)`: ", "").replaceFirst("^- ", "").replace("`", "").trim();
        for (String sentence : plain.split("(?<=\\.) (?=[A-Z(])")) {
            if (!sentence.isEmpty()) {
                sentences.add(section + " | " + sentence);
            }
        }
    }

    void section(String title) {
        section = title;
    }

    /** The calls that follow hold this sentence. */
    void says(String sentence) {
        quoted.add(section + " | " + sentence);
    }

    /** There is no call that could hold this sentence. */
    void saysNoAnswer(String sentence) {
        quoted.add(section + " | " + sentence);
    }

    void close() {
        if (!isThere) {
            return;
        }
        for (String sentence : sentences) {
            due.holds("a test that holds '" + sentence + "' is there", quoted.contains(sentence));
        }
        for (String quotation : quoted) {
            due.holds("the document says '" + quotation + "'", sentences.contains(quotation));
        }
    }
}
