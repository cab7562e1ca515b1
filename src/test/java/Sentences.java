import java.io.IOException;
import java.nio.file.Files;
import java.nio.file.Path;
import java.util.ArrayList;
import java.util.LinkedHashMap;
import java.util.List;
import java.util.Map;

/**
 * Tests that hold one sentence of the document each. A test quotes its sentence; the quotation is looked up in the
 * document, and in the end every word of the Terms and of the promises must have been quoted by some test.
 */
final class Sentences {
    /**
     * Registers 0 .. 5: 1, -1, 2^8191, then the greatest and the least number that are not too large, then -2^8191.
     */
    static final String EDGES = """
        set 0 1
        set 1 -1
        shift 2 0 8191
        reckon 3 2 0 1
        reckon 3 3 2 0
        reckon 4 3 1 2
        shift 5 1 8191
        """;

    private static final Path DOCUMENT = Path.of("..", "shared", "DOC.md");
    private static final Map<String, Section> SECTIONS = new LinkedHashMap<>();
    private static final List<String> TITLES = new ArrayList<>();

    private Sentences() {
    }

    /** The words of a section, and which of them were quoted. */
    private static final class Section {
        final String words;
        final boolean[] quoted;

        Section(String words) {
            this.words = words;
            this.quoted = new boolean[words.length()];
        }
    }

    /** Must come first. Where the document isn't there, the tests run all the same, and no quotation is looked up. */
    static void open() {
        if (!Files.isReadable(DOCUMENT)) {
            System.out.println("Sentences: " + DOCUMENT + " is not there, so no quotation is looked up");
            return;
        }
        try {
            for (String section : Files.readString(DOCUMENT).split("\n## ")) {
                int end = section.indexOf('\n');
                String title = section.substring(0, end).replaceFirst("^(Promise \\d+):.*", "$1");
                String words = section.substring(end).replaceFirst("^\\s*`[^`]*`:", "").replaceAll("\\s+", " ").strip();
                SECTIONS.put(title, new Section(words));
            }
        } catch (IOException e) {
            throw new IllegalStateException(e);
        }
    }

    /** Runs that would go wrong if this sentence of a section were broken; see Runs for how they are written. */
    static void hold(String section, String sentence, String... runs) {
        String title = section + ", \"" + sentence + "\"";
        TITLES.add(title);
        quote(section, sentence);
        for (String run : runs) {
            Runs.run(title, run);
        }
    }

    static List<String> titles() {
        return TITLES;
    }

    private static void quote(String section, String sentence) {
        if (SECTIONS.isEmpty()) {
            return;
        }
        Section from = SECTIONS.get(section);
        int start = from == null ? -1 : from.words.indexOf(sentence);
        if (start < 0) {
            Runs.fail("the document does not say under " + section + ": " + sentence);
            return;
        }
        for (int i = start; i < start + sentence.length(); i++) {
            from.quoted[i] = true;
        }
    }

    static void finish() {
        SECTIONS.forEach((title, section) -> {
            if (title.equals("Terms") || title.startsWith("Promise ")) {
                lookForWordsNotQuoted(title, section);
            }
        });
        Runs.finish("SentencesTest, " + TITLES.size() + " sentences");
    }

    private static void lookForWordsNotQuoted(String title, Section section) {
        StringBuilder rest = new StringBuilder();
        for (int i = 0; i < section.words.length(); i++) {
            rest.append(section.quoted[i] ? ' ' : section.words.charAt(i));
        }
        if (rest.chars().anyMatch(Character::isLetterOrDigit)) {
            Runs.fail("no test quotes what " + title + " says: " + rest.toString().strip().replaceAll("\\s+", " "));
        }
    }
}
