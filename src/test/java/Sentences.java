import java.io.IOException;
import java.io.UncheckedIOException;
import java.nio.file.Files;
import java.nio.file.Path;

/** Ties a test to the sentence of the document that it is a test of, and sees that the document does say it. */
final class Sentences {
    private static final Path DOCUMENT = Path.of("../shared/DOC.md");

    private Sentences() {
    }

    static void introduction(String sentence, Runnable test) {
        holds("What it is", sentence, test);
    }

    static void term(String sentence, Runnable test) {
        holds("Terms", sentence, test);
    }

    static void promise(int number, String sentence, Runnable test) {
        holds("Promise " + number + ":", sentence, test);
    }

    private static void holds(String heading, String sentence, Runnable test) {
        Expect.about(heading + " \"" + sentence + "\"");
        Expect.same("the document says so", !Files.exists(DOCUMENT) || section(heading).contains(sentence), true);
        test.run();
        Expect.about("");
    }

    private static String section(String heading) {
        for (String section : document().split("(?m)^## ")) {
            if (section.startsWith(heading)) {
                return section.replaceAll("\\s+", " ");
            }
        }
        return "";
    }

    private static String document() {
        try {
            return Files.readString(DOCUMENT);
        } catch (IOException exception) {
            throw new UncheckedIOException(exception);
        }
    }
}
