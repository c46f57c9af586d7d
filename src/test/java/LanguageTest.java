import com.sun.source.tree.AnnotationTree;
import com.sun.source.tree.ClassTree;
import com.sun.source.tree.CompilationUnitTree;
import com.sun.source.tree.ForLoopTree;
import com.sun.source.tree.MethodInvocationTree;
import com.sun.source.tree.MethodTree;
import com.sun.source.tree.NewArrayTree;
import com.sun.source.tree.NewClassTree;
import com.sun.source.tree.Tree;
import com.sun.source.tree.VariableTree;
import com.sun.source.util.JavacTask;
import com.sun.source.util.TreePathScanner;
import com.sun.source.util.Trees;
import java.io.IOException;
import java.nio.file.Path;
import java.util.EnumSet;
import java.util.HashMap;
import java.util.HashSet;
import java.util.List;
import java.util.Map;
import java.util.Set;
import java.util.TreeMap;
import java.util.TreeSet;
import javax.lang.model.element.Element;
import javax.lang.model.element.ElementKind;
import javax.lang.model.element.ExecutableElement;
import javax.lang.model.element.Modifier;
import javax.tools.JavaCompiler;
import javax.tools.StandardJavaFileManager;
import javax.tools.ToolProvider;

/** The rules of LANGUAGE.md, as far as the program's text can tell; each answer names the rule. */
public final class LanguageTest {
    private static final Path PROGRAM = Path.of("src/main/java/DerivativeCompiler.java");
    private static final Set<String> TYPES = Set.of("int", "long", "boolean", "int[]", "long[]");
    private static final Set<String> LIBRARY = Set.of(
            "java.util.Arrays.fill", "java.util.Arrays.copyOf", "java.util.Arrays.copyOfRange",
            "java.lang.System.arraycopy", "java.lang.Math.min", "java.lang.Math.max", "java.lang.Math.abs",
            "java.lang.Math.floorMod", "java.lang.Math.floorDiv");
    private static final Set<Tree.Kind> FORBIDDEN = EnumSet.of(
            Tree.Kind.THROW, Tree.Kind.TRY, Tree.Kind.CATCH, Tree.Kind.SYNCHRONIZED, Tree.Kind.ASSERT,
            Tree.Kind.LAMBDA_EXPRESSION, Tree.Kind.MEMBER_REFERENCE, Tree.Kind.PACKAGE);
    private static final int MOST_PARAMETERS = 7;
    private static final int MOST_LINES = 60;
    private static final int MOST_CLASSES = 12;
    private static final int MOST_FIELDS = 20;
    private static final int DEEPEST_CALLS = 8;

    private final Check check = new Check("language");
    private final CompilationUnitTree unit;
    private final Trees trees;
    private final Map<String, Set<String>> called = new TreeMap<>();
    private final Set<String> publicNames = new HashSet<>();
    private final Set<String> privateNames = new HashSet<>();
    private int classes = 0;

    private LanguageTest(CompilationUnitTree unit, Trees trees) {
        this.unit = unit;
        this.trees = trees;
    }

    public static void main(String[] args) throws IOException {
        JavaCompiler compiler = ToolProvider.getSystemJavaCompiler();
        try (StandardJavaFileManager files = compiler.getStandardFileManager(null, null, null)) {
            JavacTask task = (JavacTask) compiler.getTask(null, files, null,
                    List.of("-proc:none"), null, files.getJavaFileObjects(PROGRAM));
            CompilationUnitTree unit = task.parse().iterator().next();
            task.analyze();
            LanguageTest test = new LanguageTest(unit, Trees.instance(task));
            test.new Reader().scan(unit, null);
            test.lookAtWhole();
            test.check.finish();
        }
    }

    private void holds(int rule, String what, boolean right) {
        check.due("rule " + rule + ": " + what, right ? 1 : 0, 1);
    }

    private void lookAtWhole() {
        holds(1, "one class in the file", unit.getTypeDecls().size() == 1);
        Set<String> both = new TreeSet<>(privateNames);
        both.retainAll(publicNames);
        holds(1, "no private method bears the name of a public one: " + both, both.isEmpty());
        holds(11, classes + " classes", classes <= MOST_CLASSES);
        holds(11, called.size() + " methods were read", called.size() > publicNames.size());
        for (String name : called.keySet()) {
            int depth = depthFrom(name, new HashMap<>());
            holds(11, name + " goes " + depth + " calls deep", depth <= DEEPEST_CALLS);
        }
    }

    /** How many methods stand open at once below this one, those that call one another taken as one. */
    private int depthFrom(String name, Map<String, Integer> known) {
        if (known.containsKey(name)) {
            return known.get(name);
        }
        Set<String> cluster = clusterOf(name);
        int below = 0;
        for (String member : cluster) {
            for (String next : called.get(member)) {
                below = cluster.contains(next) ? below : Math.max(below, depthFrom(next, known));
            }
        }
        known.put(name, below + 1);
        return below + 1;
    }

    private Set<String> clusterOf(String name) {
        Set<String> cluster = new TreeSet<>(Set.of(name));
        for (String other : reachedFrom(name)) {
            if (reachedFrom(other).contains(name)) {
                cluster.add(other);
            }
        }
        return cluster;
    }

    private Set<String> reachedFrom(String name) {
        Set<String> reached = new TreeSet<>();
        reach(name, reached);
        return reached;
    }

    private void reach(String name, Set<String> reached) {
        for (String next : called.get(name)) {
            if (reached.add(next)) {
                reach(next, reached);
            }
        }
    }

    private final class Reader extends TreePathScanner<Void, Void> {
        private String method = null;
        private int loops = 0;

        @Override
        public Void scan(Tree tree, Void nothing) {
            if (tree != null) {
                holds(6, "no " + tree.getKind() + place(tree), !FORBIDDEN.contains(tree.getKind()));
                boolean loop = tree.getKind() == Tree.Kind.WHILE_LOOP || tree.getKind() == Tree.Kind.DO_WHILE_LOOP;
                holds(9, "the end of a loop is seen" + place(tree), !loop);
            }
            return super.scan(tree, nothing);
        }

        @Override
        public Void visitAnnotation(AnnotationTree tree, Void nothing) {
            holds(4, "no annotation" + place(tree), false);
            return null;
        }

        @Override
        public Void visitClass(ClassTree tree, Void nothing) {
            classes++;
            Element element = trees.getElement(getCurrentPath());
            boolean top = element.getEnclosingElement().getKind() == ElementKind.PACKAGE;
            boolean inside = element.getEnclosingElement().getKind() == ElementKind.CLASS;
            Set<Modifier> modifiers = element.getModifiers();
            holds(2, "a static class inside, " + element,
                    top || inside && modifiers.contains(Modifier.STATIC) && !modifiers.contains(Modifier.PUBLIC)
                    && !modifiers.contains(Modifier.PROTECTED));
            int fields = 0;
            for (Tree member : tree.getMembers()) {
                holds(5, "no block outside a method" + place(member), member.getKind() != Tree.Kind.BLOCK);
                boolean field = member instanceof VariableTree variable
                        && !variable.getModifiers().getFlags().contains(Modifier.STATIC);
                fields += field ? 1 : 0;
            }
            holds(11, fields + " fields in " + element, fields <= MOST_FIELDS);
            return super.visitClass(tree, nothing);
        }

        @Override
        public Void visitMethod(MethodTree tree, Void nothing) {
            ExecutableElement element = (ExecutableElement) trees.getElement(getCurrentPath());
            method = nameOf(element);
            called.putIfAbsent(method, new TreeSet<>());
            if (element.getKind() == ElementKind.METHOD && element.getModifiers().contains(Modifier.PUBLIC)) {
                publicNames.add(element.getSimpleName().toString());
            } else if (element.getKind() == ElementKind.METHOD) {
                privateNames.add(element.getSimpleName().toString());
            }
            holds(11, "parameters of " + method, tree.getParameters().size() <= MOST_PARAMETERS);
            holds(11, "lines of " + method, lineOfEnd(tree) - line(tree) < MOST_LINES);
            holds(4, "no thrown type of " + method, tree.getThrows().isEmpty());
            super.visitMethod(tree, nothing);
            method = null;
            return null;
        }

        @Override
        public Void visitVariable(VariableTree tree, Void nothing) {
            Element element = trees.getElement(getCurrentPath());
            String type = element.asType().toString();
            boolean own = type.startsWith("DerivativeCompiler.") && !type.endsWith("[][]");
            holds(3, "the type " + type + place(tree), own || TYPES.contains(type));
            Set<Modifier> modifiers = element.getModifiers();
            boolean shared = modifiers.contains(Modifier.STATIC);
            holds(5, "a static field is a constant" + place(tree),
                    !shared || modifiers.contains(Modifier.FINAL) && type.matches("int|long|boolean"));
            return super.visitVariable(tree, nothing);
        }

        @Override
        public Void visitMethodInvocation(MethodInvocationTree tree, Void nothing) {
            ExecutableElement element = (ExecutableElement) trees.getElement(getCurrentPath());
            String name = nameOf(element);
            if (name.startsWith("DerivativeCompiler")) {
                note(name);
            } else if (element.getKind() != ElementKind.CONSTRUCTOR) {
                holds(4, "the library's " + name + place(tree), LIBRARY.contains(name));
            }
            return super.visitMethodInvocation(tree, nothing);
        }

        @Override
        public Void visitNewClass(NewClassTree tree, Void nothing) {
            holds(2, "no class without a name" + place(tree), tree.getClassBody() == null);
            holds(12, "no object made in a loop" + place(tree), loops == 0);
            note(nameOf((ExecutableElement) trees.getElement(getCurrentPath())));
            return super.visitNewClass(tree, nothing);
        }

        @Override
        public Void visitNewArray(NewArrayTree tree, Void nothing) {
            // a row that a call makes is made again at each call: fields alone make them, with their object
            holds(12, "a row made with its object" + place(tree), method == null || method.contains(".<init>"));
            return super.visitNewArray(tree, nothing);
        }

        @Override
        public Void visitForLoop(ForLoopTree tree, Void nothing) {
            holds(9, "a counter and its bound" + place(tree), tree.getInitializer().size() == 1
                    && tree.getCondition() != null && tree.getUpdate().size() == 1);
            loops++;
            super.visitForLoop(tree, nothing);
            loops--;
            return null;
        }

        private void note(String name) {
            if (method != null) {
                called.get(method).add(name);
                called.putIfAbsent(name, new TreeSet<>());
            }
        }

        private String nameOf(ExecutableElement element) {
            return element.getEnclosingElement() + "." + element.getSimpleName();
        }

        private long line(Tree tree) {
            return unit.getLineMap().getLineNumber(trees.getSourcePositions().getStartPosition(unit, tree));
        }

        private long lineOfEnd(Tree tree) {
            return unit.getLineMap().getLineNumber(trees.getSourcePositions().getEndPosition(unit, tree));
        }

        private String place(Tree tree) {
            long start = trees.getSourcePositions().getStartPosition(unit, tree);
            return start < 0 ? "" : " in line " + unit.getLineMap().getLineNumber(start);
        }
    }
}
