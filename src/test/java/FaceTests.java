import java.io.IOException;
import java.lang.reflect.Field;
import java.lang.reflect.Method;
import java.lang.reflect.Modifier;
import java.nio.file.Files;
import java.nio.file.Path;
import java.util.Arrays;
import java.util.Set;
import java.util.TreeSet;
import java.util.regex.Matcher;
import java.util.regex.Pattern;

/** The face is the document's and no more, and the source keeps to what LANGUAGE.md leaves. */
public final class FaceTests {
    private static final Path SOURCE = Path.of("src/main/java/FenceTurns.java");
    private static final String[] METHODS = {
        "int sheet(int,int,int)", "int tear(int)", "int put(int,int,long)", "long at(int,int,int)",
        "int post(int,int)", "int take(int,int)", "int clear()", "int lay()", "int fence(int,int)",
        "int end(int,int)", "int kind(int)", "int weightAs(int,int)", "int crosses(int,int)",
        "int tell(int,int)", "int weigh(int,int)", "long cutting()", "int has(int)", "int thirds()",
        "int third(int,int)", "int degree(int)", "int turns(int)", "int turn(int)", "int back()",
        "int count()", "int rank()", "long of(int)", "int go(int)", "int sure(int)", "int best(boolean)",
        "int bestRank(boolean)", "int apart(int)", "int way(int)", "int far()", "int crossings(int)",
        "int total(int)"};
    private static final String[] CONSTANTS = {
        "UNKNOWN -1", "BAD -2", "STATE -3", "FULL -4", "NONE -9", "NULL -11", "PLACE -12", "CAST -13",
        "SIZE -14"};
    private static final Pattern LEFT_OUT = Pattern.compile("\\b(throw|throws|try|catch|synchronized|assert"
            + "|import|package|null|instanceof|new Random|System|Thread|while|float|double)\\b|->|::");

    private static int wrong;

    private static void due(String what, Object got, Object want) {
        if (!got.equals(want)) {
            wrong++;
            System.out.println(what + ": " + got + ", due is " + want);
        }
    }

    private static Set<String> setOf(String... texts) {
        return new TreeSet<>(Arrays.asList(texts));
    }

    private static String told(Method m) {
        StringBuilder types = new StringBuilder();
        for (Class<?> type : m.getParameterTypes()) {
            types.append(types.length() == 0 ? "" : ",").append(type);
        }
        return m.getReturnType() + " " + m.getName() + "(" + types + ")";
    }

    private static void face() throws IllegalAccessException {
        Class<?> c = FenceTurns.class;
        due("the class", Modifier.toString(c.getModifiers()), "public final");
        due("constructors", c.getDeclaredConstructors().length, 1);
        due("the constructor's parameters", c.getConstructors()[0].getParameterCount(), 0);
        Set<String> methods = new TreeSet<>();
        Set<String> publicNames = new TreeSet<>();
        Set<String> privateNames = new TreeSet<>();
        for (Method m : c.getDeclaredMethods()) {
            if (Modifier.isPrivate(m.getModifiers())) {
                privateNames.add(m.getName());
            } else {
                due(m + " is", Modifier.toString(m.getModifiers()), "public");
                methods.add(told(m));
                publicNames.add(m.getName());
            }
        }
        due("methods", methods, setOf(METHODS));
        privateNames.retainAll(publicNames);
        due("private names that are public ones", privateNames, setOf());
        Set<String> constants = new TreeSet<>();
        for (Field f : c.getDeclaredFields()) {
            boolean isStatic = Modifier.isStatic(f.getModifiers());
            due(f + " is final, if static", !isStatic || Modifier.isFinal(f.getModifiers()), true);
            if (!Modifier.isPrivate(f.getModifiers())) {
                due(f + " is", Modifier.toString(f.getModifiers()), "public static final");
                constants.add(f.getName() + " " + f.getInt(null));
            }
        }
        due("constants", constants, setOf(CONSTANTS));
        for (Class<?> inside : c.getDeclaredClasses()) {
            due(inside + " is static", Modifier.isStatic(inside.getModifiers()), true);
            due(inside + " is public", Modifier.isPublic(inside.getModifiers()), false);
        }
    }

    private static void source() throws IOException {
        int number = 0;
        for (String line : Files.readString(SOURCE).split("\n")) {
            number++;
            String code = line.strip();
            boolean isComment = code.startsWith("/*") || code.startsWith("*") || code.startsWith("//");
            Matcher found = LEFT_OUT.matcher(code);
            if (!isComment && found.find()) {
                due("line " + number + " of the source has", found.group(), "");
            }
        }
    }

    public static void main(String[] args) throws IOException, IllegalAccessException {
        face();
        source();
        System.out.println(wrong == 0 ? "the face is as due" : wrong + " things are not as due");
        if (wrong != 0) {
            System.exit(1);
        }
    }
}
