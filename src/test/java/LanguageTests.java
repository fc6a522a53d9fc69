import com.sun.source.tree.AssertTree;
import com.sun.source.tree.BlockTree;
import com.sun.source.tree.ClassTree;
import com.sun.source.tree.CompilationUnitTree;
import com.sun.source.tree.DoWhileLoopTree;
import com.sun.source.tree.ForLoopTree;
import com.sun.source.tree.InstanceOfTree;
import com.sun.source.tree.LambdaExpressionTree;
import com.sun.source.tree.LiteralTree;
import com.sun.source.tree.MemberReferenceTree;
import com.sun.source.tree.MethodInvocationTree;
import com.sun.source.tree.MethodTree;
import com.sun.source.tree.NewArrayTree;
import com.sun.source.tree.NewClassTree;
import com.sun.source.tree.SynchronizedTree;
import com.sun.source.tree.ThrowTree;
import com.sun.source.tree.Tree;
import com.sun.source.tree.TryTree;
import com.sun.source.tree.VariableTree;
import com.sun.source.tree.WhileLoopTree;
import com.sun.source.util.JavacTask;
import com.sun.source.util.TreePathScanner;
import com.sun.source.util.Trees;
import java.io.IOException;
import java.nio.file.Files;
import java.nio.file.Path;
import java.util.HashSet;
import java.util.List;
import java.util.Map;
import java.util.Set;
import java.util.TreeMap;
import java.util.TreeSet;
import javax.lang.model.element.Element;
import javax.lang.model.element.Modifier;
import javax.lang.model.element.TypeElement;
import javax.tools.JavaCompiler;
import javax.tools.StandardJavaFileManager;
import javax.tools.ToolProvider;

/**
 * The source keeps to LANGUAGE.md, by its rules' numbers: it is read as the compiler reads it. It
 * is held narrower than the rules are, to what this program needs of them: so a change that wants
 * more of the language is seen here, and is to be weighed against the rules before it is let in.
 */
public final class LanguageTests {
    private static final Path SOURCE = Path.of("src/main/java/FenceTurns.java");
    private static final int MOST_PARAMETERS = 7;
    private static final int MOST_LINES = 60;
    private static final int MOST_CLASSES = 12;
    private static final int MOST_FIELDS = 20;
    private static final int MOST_DEPTH = 8;
    private static final Set<String> LIBRARY = Set.of("Integer.bitCount", "Math.max", "Math.min");
    private static final Set<String> NUMBERS = Set.of("int", "long", "boolean", "byte", "short");

    private static int wrong;

    private static void must(int rule, boolean holds, String what) {
        if (!holds) {
            wrong++;
            System.out.println("rule " + rule + ": " + what);
        }
    }

    public static void main(String[] args) throws IOException {
        String text = Files.readString(SOURCE);
        must(4, text.chars().allMatch(sign -> sign == '\n' || sign >= 32 && sign < 127), "signs of the source");
        JavaCompiler compiler = ToolProvider.getSystemJavaCompiler();
        try (StandardJavaFileManager files = compiler.getStandardFileManager(null, null, null)) {
            JavacTask task = (JavacTask) compiler.getTask(null, files, null, List.of("-proc:none"), null,
                    files.getJavaFileObjects(SOURCE));
            CompilationUnitTree unit = task.parse().iterator().next();
            task.analyze();
            Reader reader = new Reader(Trees.instance(task), unit);
            reader.scan(unit, null);
            reader.judgeTheWhole();
        }
        System.out.println(wrong == 0 ? "the source keeps to the rules" : wrong + " places do not keep to the rules");
        if (wrong != 0) {
            System.exit(1);
        }
    }

    private static final class Reader extends TreePathScanner<Void, Void> {
        private final Trees trees;
        private final CompilationUnitTree unit;
        private final Set<String> classes = new TreeSet<>();
        private final Set<String> publicNames = new TreeSet<>();
        private final Set<String> otherNames = new TreeSet<>();
        /** By a method: those of the program that it calls. */
        private final Map<Element, Set<Element>> calls = new TreeMap<>((a, b) -> told(a).compareTo(told(b)));
        private Element method;

        Reader(Trees trees, CompilationUnitTree unit) {
            this.trees = trees;
            this.unit = unit;
            must(1, unit.getPackageName() == null, "a package line");
            must(4, unit.getImports().isEmpty(), "an import");
            must(1, unit.getTypeDecls().size() == 1, "more than one class outside");
            for (Tree outside : unit.getTypeDecls()) {
                classes.add(((ClassTree) outside).getSimpleName().toString());
                for (Tree inside : ((ClassTree) outside).getMembers()) {
                    if (inside instanceof ClassTree c) {
                        classes.add(c.getSimpleName().toString());
                    }
                }
            }
        }

        private static String told(Element e) {
            return e.getEnclosingElement() + "." + e;
        }

        private static TypeElement classOf(Element e) {
            return e.getEnclosingElement() instanceof TypeElement type ? type : null;
        }

        private boolean isOurs(TypeElement type) {
            return type != null && (type.getQualifiedName() + ".").startsWith("FenceTurns.");
        }

        private int lineOf(long position) {
            return (int) unit.getLineMap().getLineNumber(position);
        }

        private String at(Tree tree) {
            return "line " + lineOf(trees.getSourcePositions().getStartPosition(unit, tree)) + ": " + tree;
        }

        @Override
        public Void visitClass(ClassTree c, Void nothing) {
            boolean isOutermost = getCurrentPath().getParentPath().getLeaf() instanceof CompilationUnitTree;
            Set<Modifier> modifiers = c.getModifiers().getFlags();
            must(2, c.getKind() == Tree.Kind.CLASS, at(c) + " is no plain class");
            must(2, isOutermost || modifiers.contains(Modifier.STATIC), "an inner class that is not static: " + at(c));
            must(2, isOutermost || modifiers.contains(Modifier.PRIVATE), "a class inside that is seen: " + at(c));
            int fields = 0;
            for (Tree member : c.getMembers()) {
                if (member instanceof VariableTree v && !v.getModifiers().getFlags().contains(Modifier.STATIC)) {
                    fields++;
                }
                must(5, !(member instanceof BlockTree), "a block that initialises: " + at(member));
            }
            must(11, fields <= MOST_FIELDS, c.getSimpleName() + " has " + fields + " fields");
            return super.visitClass(c, nothing);
        }

        @Override
        public Void visitMethod(MethodTree m, Void nothing) {
            Element outer = method;
            method = trees.getElement(getCurrentPath());
            calls.computeIfAbsent(method, key -> new HashSet<>());
            boolean isPublic = m.getModifiers().getFlags().contains(Modifier.PUBLIC);
            (isPublic ? publicNames : otherNames).add(m.getName().toString());
            must(6, m.getThrows().isEmpty(), "a throws clause: " + m.getName());
            must(6, !Set.of("equals", "hashCode", "toString").contains(m.getName().toString()), m.getName().toString());
            must(11, m.getParameters().size() <= MOST_PARAMETERS, m.getName() + " takes too much");
            long from = trees.getSourcePositions().getStartPosition(unit, m);
            long to = trees.getSourcePositions().getEndPosition(unit, m);
            must(11, lineOf(to) - lineOf(from) < MOST_LINES, m.getName() + " is too long");
            if (m.getReturnType() != null && !m.getReturnType().toString().equals("void")) {
                mustBeKnown(m.getReturnType());
            }
            super.visitMethod(m, nothing);
            method = outer;
            return null;
        }

        @Override
        public Void visitVariable(VariableTree v, Void nothing) {
            mustBeKnown(v.getType());
            Set<Modifier> modifiers = v.getModifiers().getFlags();
            if (modifiers.contains(Modifier.STATIC)) {
                must(5, modifiers.contains(Modifier.FINAL) && v.getType().toString().equals("int"), at(v));
            }
            return super.visitVariable(v, nothing);
        }

        private void mustBeKnown(Tree type) {
            String name = type.toString().replaceFirst("\\[\\]$", "");
            must(3, NUMBERS.contains(name) || classes.contains(name), "a type that is not known: " + at(type));
        }

        @Override
        public Void visitMethodInvocation(MethodInvocationTree call, Void nothing) {
            Element called = trees.getElement(getCurrentPath());
            TypeElement type = classOf(called);
            if (isOurs(type)) {
                must(12, method != null, "a call while fields are made: " + at(call));
                if (method != null) {
                    calls.get(method).add(called);
                }
            } else if (!called.getSimpleName().contentEquals("<init>")) {
                must(4, LIBRARY.contains(type.getSimpleName() + "." + called.getSimpleName()), at(call));
            }
            return super.visitMethodInvocation(call, nothing);
        }

        @Override
        public Void visitNewClass(NewClassTree made, Void nothing) {
            must(2, made.getClassBody() == null, "a class without a name: " + at(made));
            must(3, classes.contains(made.getIdentifier().toString()), at(made));
            mustBeMadeWithTheObject(made);
            return super.visitNewClass(made, nothing);
        }

        @Override
        public Void visitNewArray(NewArrayTree made, Void nothing) {
            must(3, made.getDimensions().size() == 1, "rows are made by their length: " + at(made));
            mustBeMadeWithTheObject(made);
            return super.visitNewArray(made, nothing);
        }

        private void mustBeMadeWithTheObject(Tree made) {
            boolean isInCall = method != null && !method.getSimpleName().contentEquals("<init>");
            must(12, !isInCall, "a call makes something: " + at(made));
        }

        @Override
        public Void visitForLoop(ForLoopTree loop, Void nothing) {
            must(9, loop.getCondition() != null && !(loop.getCondition() instanceof LiteralTree), at(loop));
            must(9, loop.getUpdate().size() == 1, "a loop's own line tells its step: " + at(loop));
            return super.visitForLoop(loop, nothing);
        }

        @Override
        public Void visitWhileLoop(WhileLoopTree loop, Void nothing) {
            must(9, false, at(loop));
            return super.visitWhileLoop(loop, nothing);
        }

        @Override
        public Void visitDoWhileLoop(DoWhileLoopTree loop, Void nothing) {
            must(9, false, at(loop));
            return super.visitDoWhileLoop(loop, nothing);
        }

        @Override
        public Void scan(Tree tree, Void nothing) {
            must(2, !(tree instanceof LambdaExpressionTree || tree instanceof MemberReferenceTree), "" + tree);
            must(6, !(tree instanceof ThrowTree || tree instanceof TryTree), "" + tree);
            must(6, !(tree instanceof SynchronizedTree || tree instanceof AssertTree), "" + tree);
            must(7, !(tree instanceof InstanceOfTree), "" + tree);
            boolean isNullOrReal = tree instanceof LiteralTree literal
                    && (literal.getKind() == Tree.Kind.NULL_LITERAL || literal.getKind() == Tree.Kind.DOUBLE_LITERAL
                    || literal.getKind() == Tree.Kind.FLOAT_LITERAL || literal.getKind() == Tree.Kind.STRING_LITERAL);
            must(7, !isNullOrReal, "" + tree);
            return super.scan(tree, nothing);
        }

        void judgeTheWhole() {
            must(11, classes.size() <= MOST_CLASSES, classes.size() + " classes");
            otherNames.retainAll(publicNames);
            must(1, otherNames.equals(Set.of("<init>")) || otherNames.isEmpty(), "names that are public ones: " + otherNames);
            must(8, calls.size() > publicNames.size(), "no calls were read");
            for (Element from : calls.keySet()) {
                boolean callsItself = calls.get(from).contains(from);
                must(8, !callsItself || from.getModifiers().containsAll(Set.of(Modifier.PRIVATE, Modifier.STATIC)),
                        "recursion that is not private and static: " + told(from));
                must(11, depthFrom(from, 1) <= MOST_DEPTH, "calls go too deep, or round, from " + told(from));
            }
        }

        /** How deep calls go, a method's calls of itself left out; a ring of methods is too deep. */
        private int depthFrom(Element from, int depth) {
            int deepest = depth;
            for (Element to : calls.getOrDefault(from, Set.of())) {
                if (to != from && depth <= MOST_DEPTH) {
                    deepest = Math.max(deepest, depthFrom(to, depth + 1));
                }
            }
            return deepest;
        }
    }
}
