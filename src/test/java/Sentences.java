import java.io.IOException;
import java.nio.file.Files;
import java.nio.file.Path;

/** Tests of one section of the document: each one names the sentence, or the part of one, that it tests. */
final class Sentences {
    interface Test {
        void run(Check check);
    }

    private static final Path DOCUMENT = Path.of("../shared/DOC.md");

    private final String section;
    private final String text;
    private int tested = 0;
    private int answers = 0;
    private int wrong = 0;

    Sentences(String section) throws IOException {
        this.section = section;
        this.text = Files.exists(DOCUMENT) ? textOf(section) : null;
    }

    /** What stands below the section's heading, with single blanks between all words. */
    private static String textOf(String section) throws IOException {
        for (String part : Files.readString(DOCUMENT).split("(?m)^##? ")) {
            if (part.startsWith(section + "\n")) {
                return part.replaceAll("(?m)^```.*$", "").replaceAll("\\s+", " ");
            }
        }
        return "";
    }

    void test(String words, Test test) {
        Check check = new Check(section + ", '" + words + "'");
        test.run(check);
        check.due("a test of this sentence", check.answers() > 0 ? 1 : 0, 1);
        if (text != null) {
            // a sentence that the document no longer has would be tested in vain
            check.due("these words in the document", text.contains(words) ? 1 : 0, 1);
        }
        tested++;
        answers += check.answers();
        wrong += check.wrong();
    }

    void finish() {
        System.out.println(section + ": " + tested + " sentences, " + answers + " answers, " + wrong + " wrong");
        if (wrong != 0) {
            System.exit(1);
        }
    }
}
