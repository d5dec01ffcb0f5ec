import java.io.IOException;
import java.nio.file.Files;
import java.nio.file.Path;
import java.util.ArrayList;
import java.util.LinkedHashSet;
import java.util.List;
import java.util.Set;

/** Holds the tests against the document: each sentence of it has a test, or is told here to need none. */
final class Sentences {
    private static final Path DOCUMENT = Path.of("..", "shared", "DOC.md");
    private static final String FIRST_HEADING = "The road", LAST_HEADING = "Not promised";

    /** Sentences that name no boundary; those that begin with the words that end in "...". */
    private static final List<String> WITHOUT_BOUNDARY = List.of(
            "Changes and errors | Ahead of the calls `drive`, `token`,...",
            "Changes and errors | Ahead of the calls `append`, `clear`,...",
            "Changes and errors | Ahead of the calls `undo`, `save`,...");

    private static final Set<String> TESTED = new LinkedHashSet<>();

    private Sentences() {
    }

    static void tested(String section, String sentence) {
        Report.begin(section, sentence);
        if (!TESTED.add(section + " | " + sentence)) {
            Report.fault("has two tests");
        }
    }

    static int howMany() {
        return TESTED.size();
    }

    static void compareWithDocument() throws IOException {
        Report.begin("the document", DOCUMENT.toString());
        Set<String> inDocument = ofDocument();
        for (String sentence : TESTED) {
            if (!inDocument.contains(sentence)) {
                Report.fault("does not have the sentence that is tested: " + sentence);
            }
        }
        for (String sentence : inDocument) {
            if (!TESTED.contains(sentence) && !needsNone(sentence)) {
                Report.fault("has a sentence without a test: " + sentence);
            }
        }
    }

    private static boolean needsNone(String sentence) {
        for (String known : WITHOUT_BOUNDARY) {
            if (known.endsWith("...") ? sentence.startsWith(known.substring(0, known.length() - 3))
                    : sentence.equals(known)) {
                return true;
            }
        }
        return false;
    }

    /** The sentences from the terms to the last promise, each behind its heading. */
    private static Set<String> ofDocument() throws IOException {
        List<String> sentences = new ArrayList<>();
        String heading = "";
        boolean inside = false;
        for (String line : Files.readAllLines(DOCUMENT)) {
            if (line.startsWith("#")) {
                heading = line.replaceFirst("^#+ ", "");
                inside = heading.equals(FIRST_HEADING) || inside && !heading.equals(LAST_HEADING);
            } else if (inside && !line.isBlank()) {
                for (String sentence : ofLine(line)) {
                    sentences.add(heading + " | " + sentence);
                }
            }
        }
        return new LinkedHashSet<>(sentences);
    }

    /** Without the sign of a list, and without the face of a call at its beginning. */
    private static String[] ofLine(String line) {
        String text = line.replaceFirst("^- ", "").replaceFirst("^`([a-z]+ )?[a-zA-Z]+\\([^`]*\\)`: ", "");
        return text.split("(?<=[a-zA-Z0-9)]\\.|\\.\\))\\s+(?=[A-Z(])");
    }
}
