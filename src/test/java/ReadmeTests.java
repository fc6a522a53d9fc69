import java.io.ByteArrayOutputStream;
import java.io.IOException;
import java.io.PrintStream;
import java.lang.reflect.Field;
import java.net.URL;
import java.net.URLClassLoader;
import java.nio.file.DirectoryStream;
import java.nio.file.Files;
import java.nio.file.Path;
import java.util.ArrayList;
import java.util.List;
import java.util.Set;
import java.util.TreeSet;
import java.util.regex.Matcher;
import java.util.regex.Pattern;
import javax.tools.ToolProvider;

/** What README.md shows of calls, answers, constants and files is so. */
public final class ReadmeTests {
    private static final Path PAGE = Path.of("README.md");
    private static final Pattern BLOCK = Pattern.compile("(?s)```(\\w+)\n(.*?)```");
    private static final Pattern CALL = Pattern.compile("x\\.(\\w+)\\((.*?)\\);\\s+// (-?\\d+|[A-Z]+)\\b.*");
    private static final Pattern NEW = Pattern.compile("FenceTurns x = new FenceTurns\\(\\);");

    private static final Set<String> shown = new TreeSet<>();
    private static int examples;
    private static int wrong;

    private static void must(boolean holds, String what) {
        if (!holds) {
            wrong++;
            System.out.println(what);
        }
    }

    private static long valueOf(String word) throws ReflectiveOperationException {
        if (word.matches("-?\\d+L?")) {
            return Long.parseLong(word.replace("L", ""));
        }
        if (word.equals("true") || word.equals("false")) {
            return word.equals("true") ? 1 : 0;
        }
        return FenceTurns.class.getField(word).getLong(null);
    }

    private static void example(String block) throws ReflectiveOperationException {
        examples++;
        Tried x = null;
        for (String line : block.split("\n")) {
            Matcher call = CALL.matcher(line);
            if (NEW.matcher(line).matches()) {
                x = Tried.made();
            } else if (x == null || !call.matches()) {
                must(false, "no call with its answer: " + line);
            } else {
                shown.add(call.group(1));
                long got = x.ask(call.group(1), arguments(call.group(2)));
                must(got == valueOf(call.group(3)), line + ": it answers " + got);
            }
        }
    }

    private static long[] arguments(String text) throws ReflectiveOperationException {
        String[] words = text.isEmpty() ? new String[0] : text.split(", ");
        long[] arguments = new long[words.length];
        for (int i = 0; i < words.length; i++) {
            arguments[i] = valueOf(words[i]);
        }
        return arguments;
    }

    private static void program(String source, String due) throws IOException, ReflectiveOperationException {
        Matcher name = Pattern.compile("public final class (\\w+)").matcher(source);
        must(name.find(), "a program without a class");
        Path folder = Files.createTempDirectory("readme");
        Path file = Files.writeString(folder.resolve(name.group(1) + ".java"), source);
        int failed = ToolProvider.getSystemJavaCompiler().run(null, null, null, "-cp",
                System.getProperty("java.class.path"), "-d", folder.toString(), file.toString());
        must(failed == 0, name.group(1) + " does not compile");
        if (failed == 0) {
            must(printed(folder, name.group(1)).equals(due), name.group(1) + " prints something else");
        }
        for (String end : new String[] {".java", ".class"}) {
            Files.deleteIfExists(folder.resolve(name.group(1) + end));
        }
        Files.delete(folder);
    }

    private static String printed(Path folder, String name) throws IOException, ReflectiveOperationException {
        PrintStream out = System.out;
        ByteArrayOutputStream printed = new ByteArrayOutputStream();
        try (URLClassLoader loader = new URLClassLoader(new URL[] {folder.toUri().toURL()})) {
            System.setOut(new PrintStream(printed, true));
            loader.loadClass(name).getMethod("main", String[].class).invoke(null, (Object) new String[0]);
        } finally {
            System.setOut(out);
        }
        return printed.toString().replace(System.lineSeparator(), "\n");
    }

    private static void blocks(String page) throws IOException, ReflectiveOperationException {
        List<String> kinds = new ArrayList<>();
        List<String> texts = new ArrayList<>();
        Matcher block = BLOCK.matcher(page);
        while (block.find()) {
            kinds.add(block.group(1));
            texts.add(block.group(2));
        }
        int programs = 0;
        for (int i = 0; i < texts.size(); i++) {
            boolean isProgram = texts.get(i).contains("static void main");
            if (kinds.get(i).equals("java") && !isProgram) {
                example(texts.get(i));
            }
            if (isProgram) {
                programs++;
                // how it is compiled and run stands between the program and what it prints
                must(kinds.get(i + 1).equals("sh") && kinds.get(i + 2).equals("text"), "what a program prints");
                program(texts.get(i), texts.get(i + 2));
            }
        }
        must(programs == 1 && examples == 4, programs + " programs and " + examples + " examples were found");
    }

    /** Each constant has its row, each call of the document its row and an example. */
    private static void tables(String page) throws ReflectiveOperationException {
        for (Field f : FenceTurns.class.getFields()) {
            must(page.contains("| `" + f.getName() + "` | " + f.getInt(null) + " |"), f.getName() + " has no row");
        }
        Matcher call = Pattern.compile("public (?:int|long) (\\w+)\\(([^)]*)\\);").matcher(Sentences.document());
        Set<String> calls = new TreeSet<>();
        while (call.find()) {
            String names = call.group(2).replaceAll("(int|long|boolean) ", "");
            calls.add(call.group(1));
            must(page.contains("| `" + call.group(1) + "(" + names + ")` |"), call.group(1) + " has no row");
        }
        must(calls.size() == 35, calls.size() + " calls were read");
        calls.removeAll(shown);
        must(calls.isEmpty(), "calls without an example: " + calls);
    }

    private static void files(String page) throws IOException {
        Matcher path = Pattern.compile("(?:\\.ci|src|\\.\\./shared)/[\\w./]*\\w").matcher(page);
        while (path.find()) {
            must(Files.exists(Path.of(path.group())), "there is no " + path.group());
        }
        for (String folder : new String[] {"src/test/java", "src/test/help"}) {
            try (DirectoryStream<Path> tests = Files.newDirectoryStream(Path.of(folder), "*.java")) {
                for (Path test : tests) {
                    String name = test.getFileName().toString().replace(".java", "");
                    must(page.contains("`" + name + "`"), name + " is not told of");
                }
            }
        }
    }

    public static void main(String[] args) throws IOException, ReflectiveOperationException {
        String page = Files.readString(PAGE);
        blocks(page);
        tables(page);
        files(page);
        System.out.println(wrong == 0 ? "the page is as due" : wrong + " places of the page are not as due");
        if (wrong != 0) {
            System.exit(1);
        }
    }
}
