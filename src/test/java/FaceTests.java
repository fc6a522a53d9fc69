import java.lang.reflect.Field;
import java.lang.reflect.Method;
import java.lang.reflect.Modifier;
import java.nio.file.Path;
import java.util.ArrayList;
import java.util.List;
import java.util.Set;
import java.util.TreeSet;
import java.util.regex.Matcher;
import java.util.regex.Pattern;

/** The face is the document's and no more, its calls under the headings that the document tells. */
public final class FaceTests {
    private static final Path SOURCE = Path.of("src/main/java/FenceTurns.java");
    private static final String FIRST_LINE = "public final class FenceTurns {";

    private static String faceOfTheDocument() {
        String text = Sentences.document();
        int from = text.indexOf(FIRST_LINE) + FIRST_LINE.length();
        return text.substring(from, text.indexOf("}", from));
    }

    /** The public lines of a text, without what ends them. */
    private static List<String> publicLines(String text, String end) {
        List<String> lines = new ArrayList<>();
        Matcher line = Pattern.compile("\\bpublic (?!final class)[^;{]*?(?=" + end + ")").matcher(text);
        while (line.find()) {
            lines.add(line.group().strip());
        }
        return lines;
    }

    private static void declarations() {
        Sentences.sentence("The public face", FIRST_LINE);
        List<String> due = publicLines(faceOfTheDocument(), ";");
        Sentences.due("lines of the document's face", due.size(), 38);
        String source = Sentences.read(SOURCE);
        Sentences.same("the class's public lines", publicLines(source, "[;{]").toString(), due.toString());
        Sentences.same("the class is", Modifier.toString(FenceTurns.class.getModifiers()), "public final");
        Sentences.due("classes in the source that are public", publicClasses(source), 1);
    }

    private static int publicClasses(String source) {
        return source.split("\\bpublic (final |abstract )?(class|interface|enum|record)\\b", -1).length - 1;
    }

    private static void nothingElseIsSeen() {
        Sentences.sentence("The public face", FIRST_LINE);
        Class<?> c = FenceTurns.class;
        Sentences.due("constructors", c.getDeclaredConstructors().length, 1);
        Set<String> methods = new TreeSet<>();
        for (Method m : c.getDeclaredMethods()) {
            if (!Modifier.isPrivate(m.getModifiers())) {
                Sentences.same(m + " is", Modifier.toString(m.getModifiers()), "public");
                methods.add(m.getName());
            }
        }
        Sentences.due("calls", methods.size(), 35);
        int constants = 0;
        for (Field f : c.getDeclaredFields()) {
            if (!Modifier.isPrivate(f.getModifiers())) {
                Sentences.same(f + " is", Modifier.toString(f.getModifiers()), "public static final");
                constants++;
            }
        }
        Sentences.due("constants", constants, 9);
        for (Class<?> inside : c.getDeclaredClasses()) {
            int modifiers = inside.getModifiers();
            boolean isSeen = Modifier.isPublic(modifiers) || Modifier.isProtected(modifiers);
            Sentences.due(inside + " is seen from outside", isSeen ? 1 : 0, 0);
        }
    }

    private static void headings() {
        Pattern ahead = Pattern.compile("Ahead of the calls ([^.]*) the interface says: (---- [^.]*)\\.");
        Matcher said = ahead.matcher(Sentences.document());
        String source = Sentences.read(SOURCE);
        int headings = 0;
        while (said.find()) {
            headings++;
            Sentences.sentence("Terms 3", said.group());
            Sentences.same("the calls under " + said.group(2), callsUnder(said.group(2), source),
                    said.group(1).replace("`", ""));
        }
        Sentences.due("headings", headings, 4);
    }

    private static String callsUnder(String heading, String source) {
        int from = source.indexOf("// " + heading + "\n");
        if (from < 0) {
            return "there is no such heading";
        }
        int to = source.indexOf("// ----", from + 1);
        List<String> names = new ArrayList<>();
        for (String line : publicLines(source.substring(from, to < 0 ? source.length() : to), "[{]")) {
            names.add(line.replaceAll("\\(.*", "").replaceAll(".* ", ""));
        }
        return String.join(", ", names);
    }

    public static void main(String[] args) {
        declarations();
        nothingElseIsSeen();
        headings();
        Sentences.end();
    }
}
