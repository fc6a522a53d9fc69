import java.io.IOException;
import java.nio.file.Files;
import java.nio.file.Path;

/**
 * Which sentence of the document is being tested, and how many answers were not as due by it. A
 * sentence is named by the words of the document itself, so that a test cannot quote what the
 * document does not say.
 */
final class Sentences {
    private static final Path DOCUMENT = Path.of("../shared/DOC.md");

    private static String sentence = "no sentence is named";
    private static int answersOfSentence = 1;
    private static int sentences;
    private static int answers;
    private static int wrong;

    private Sentences() {
    }

    /** From here on all answers are due by these words, which stand in that part of the document. */
    static void sentence(String part, String words) {
        mustHaveAnswers();
        sentence = part + ", \"" + words + "\"";
        answersOfSentence = 0;
        sentences++;
        if (!textOf(part).contains(words)) {
            fault("these are not the document's words");
        }
    }

    static void due(String call, long got, long want) {
        answersOfSentence++;
        answers++;
        if (got != want) {
            fault(call + " answered " + got + ", due is " + want);
        }
    }

    static void same(String what, String got, String want) {
        answersOfSentence++;
        answers++;
        if (!got.equals(want)) {
            fault(what + ": " + got + ", due is " + want);
        }
    }

    static void fault(String what) {
        wrong++;
        System.out.println(sentence + ": " + what);
    }

    /** To be called last: tells how it went, and ends with exit code 1 if an answer was wrong. */
    static void end() {
        mustHaveAnswers();
        System.out.println(sentences + " sentences, " + answers + " answers, " + wrong + " not as due");
        if (wrong != 0) {
            System.exit(1);
        }
    }

    private static void mustHaveAnswers() {
        if (answersOfSentence == 0) {
            fault("no answer is tested");
        }
    }

    /** A part is headed by "## ", but for "Promise 1" .. "Promise 36" and "Terms 1" .. "Terms 3". */
    private static String textOf(String part) {
        String text = document();
        int from = text.indexOf(headOf(part));
        return from < 0 ? "" : text.substring(from + headOf(part).length()).split("========|## ")[0];
    }

    /** The words by which a part begins in the document. */
    static String headOf(String part) {
        if (part.startsWith("Promise ")) {
            return "## " + part + ":";
        }
        if (part.startsWith("Terms ")) {
            return "======== " + part.substring("Terms ".length()) + " ";
        }
        return "## " + part + " ";
    }

    /** All of the document, its lines joined. */
    static String document() {
        return read(DOCUMENT).replaceAll("\\s+", " ");
    }

    static String read(Path file) {
        try {
            return Files.readString(file);
        } catch (IOException e) {
            throw new IllegalStateException(file + " cannot be read", e);
        }
    }
}
