import java.io.IOException;
import java.nio.file.DirectoryStream;
import java.nio.file.Files;
import java.nio.file.Path;
import java.util.BitSet;
import java.util.regex.Matcher;
import java.util.regex.Pattern;

/**
 * Every sentence of the document stands in a test: some test quotes it, or it asks nothing of the
 * class. A sentence that comes into the document fails here until a test stands for it.
 */
public final class DocumentTests {
    private static final Path TESTS = Path.of("src/test/java");
    private static final String TEXT = "\"(?:[^\"\\\\]|\\\\.)*\"";
    private static final Pattern QUOTATION = Pattern.compile(
            "Sentences\\.sentence\\(\\s*(" + TEXT + "),\\s*(" + TEXT + "(?:\\s*\\+\\s*" + TEXT + ")*)\\s*\\)");

    /** What stands around the sentences. FaceTests reads the face and what is said ahead of its calls. */
    private static final String[] FRAME = {
        "# FenceTurns", "## (?:What it is|The public face|Terms|Not promised)", "======== [123]", "```(?:text|java)?",
        "## Promise \\d+: [\\w ]+ `[\\w ]+\\([\\w ,]*\\)`:", "public final class FenceTurns \\{.*?\\}",
        "Ahead of the calls [^.]* the interface says: ---- [^.]*\\."};
    private static final String[] FREEDOMS = {
        "what later calls answer is free.",
        "How the state is held inside the object is free, as are the speed of each call, the text of toString and the"
            + " behaviour of equals and hashCode.",
        "Use of one object from several threads at once is not promised to be safe.",
        ", and nothing about an object after its 512th call."};

    private static void whatItIs() {
        Sentences.sentence("What it is", "Grounds of posts cut into thirds by fences: one fence turned at a time, all"
                + " cuttings in order, ranked, counted, with fences held and barred; what all have, the least by weights,"
                + " the fewest turns between two and the way of them.");
        Tried x = Tried.laid(Tried.PENTAGON).due(3, "thirds").due(5, "turn", 1).due(701, "cutting").due(5, "count");
        x.due(671, "of", 0).due(985, "of", 4).due(1, "rank").due(2, "tell", 5, 1).due(1, "tell", 6, 2);
        x.due(2, "sure", 2).due(0, "sure", 6).due(0, "weigh", 2, -9).due(-9, "best", 0).due(2, "tell", 6, 0);
        x.due(5, "tell", 5, 0).due(2, "apart", 4).due(2, "way", 4).due(6, "turn", 2).due(1, "apart", 4).due(5, "way", 4);
        x.due(8, "turn", 5).due(985, "cutting").due(0, "apart", 4);
    }

    private static void everySentenceIsTested() throws IOException {
        String text = Sentences.document();
        BitSet tested = new BitSet(text.length());
        for (String part : FRAME) {
            Matcher found = Pattern.compile(part).matcher(text);
            while (found.find()) {
                tested.set(found.start(), found.end());
            }
        }
        for (String words : FREEDOMS) {
            cover(tested, text, text.indexOf(words), words);
        }
        try (DirectoryStream<Path> tests = Files.newDirectoryStream(TESTS, "*.java")) {
            for (Path test : tests) {
                coverQuotations(tested, text, Sentences.read(test));
            }
        }
        Sentences.sentence("Not promised", "Nothing is promised beyond the answers and state changes described above");
        Sentences.same("what no test quotes", untested(tested, text), "");
    }

    private static void coverQuotations(BitSet tested, String text, String test) {
        Matcher quotation = QUOTATION.matcher(test);
        while (quotation.find()) {
            String part = unquoted(quotation.group(1));
            String words = unquoted(quotation.group(2));
            cover(tested, text, text.indexOf(words, text.indexOf(Sentences.headOf(part))), words);
        }
    }

    private static void cover(BitSet tested, String text, int from, String words) {
        if (from < 0) {
            Sentences.fault("these are not the document's words: " + words);
        } else {
            tested.set(from, from + words.length());
        }
    }

    /** The text that a constant expression of texts joined by + holds. */
    private static String unquoted(String expression) {
        StringBuilder words = new StringBuilder();
        Matcher text = Pattern.compile(TEXT).matcher(expression);
        while (text.find()) {
            words.append(text.group(), 1, text.group().length() - 1);
        }
        return words.toString();
    }

    private static String untested(BitSet tested, String text) {
        StringBuilder left = new StringBuilder();
        for (int from = tested.nextClearBit(0); from < text.length(); from = tested.nextClearBit(from)) {
            int next = tested.nextSetBit(from);
            int to = next < 0 ? text.length() : next;
            String words = text.substring(from, to);
            if (words.matches(".*\\w.*")) {
                left.append(" [").append(words.strip()).append("]");
            }
            from = to;
        }
        return left.toString().strip();
    }

    public static void main(String[] args) throws IOException {
        whatItIs();
        everySentenceIsTested();
        Sentences.end();
    }
}
