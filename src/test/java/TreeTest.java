import com.sun.source.tree.ClassTree;
import com.sun.source.tree.CompilationUnitTree;
import com.sun.source.tree.ForLoopTree;
import com.sun.source.tree.MethodInvocationTree;
import com.sun.source.tree.MethodTree;
import com.sun.source.tree.NewArrayTree;
import com.sun.source.tree.NewClassTree;
import com.sun.source.tree.Tree;
import com.sun.source.tree.WhileLoopTree;
import com.sun.source.util.JavacTask;
import com.sun.source.util.TreePathScanner;
import com.sun.source.util.Trees;
import java.io.IOException;
import java.nio.file.Path;
import java.util.ArrayList;
import java.util.HashMap;
import java.util.LinkedHashMap;
import java.util.LinkedHashSet;
import java.util.List;
import java.util.Map;
import java.util.Set;
import javax.lang.model.element.Element;
import javax.lang.model.element.ElementKind;
import javax.lang.model.element.ExecutableElement;
import javax.lang.model.element.Modifier;
import javax.tools.JavaCompiler;
import javax.tools.StandardJavaFileManager;
import javax.tools.ToolProvider;

/** Those rules of LANGUAGE.md that the compiler's tree of the program can show. */
public final class TreeTest {
    private static final Checks CHECKS = new Checks();
    private static final int DEEPEST = 8;
    /** Of rule 4, what a program that makes no text and no list can need. */
    private static final Set<String> LIBRARY = Set.of(
        "java.lang.String.length", "java.lang.String.charAt", "java.lang.String.indexOf",
        "java.lang.Integer.bitCount", "java.lang.Math.max", "java.lang.Math.min",
        "java.lang.System.arraycopy", "java.util.Arrays.fill", "java.lang.Object.<init>");
    private static final Set<Tree.Kind> RULED_OUT = Set.of(
        Tree.Kind.THROW, Tree.Kind.TRY, Tree.Kind.CATCH, Tree.Kind.SYNCHRONIZED, Tree.Kind.ASSERT,
        Tree.Kind.LAMBDA_EXPRESSION, Tree.Kind.MEMBER_REFERENCE, Tree.Kind.ANNOTATION, Tree.Kind.ERRONEOUS);

    public static void main(String[] args) throws IOException {
        JavaCompiler compiler = ToolProvider.getSystemJavaCompiler();
        try (StandardJavaFileManager files = compiler.getStandardFileManager(null, null, null)) {
            JavacTask task = (JavacTask) compiler.getTask(null, files, null, List.of("-proc:none"), null,
                files.getJavaFileObjects(Path.of(args[0])));
            Look look = new Look(Trees.instance(task));
            for (CompilationUnitTree unit : task.parse()) {
                task.analyze();
                look.scan(unit, null);
            }
            callsGoNotTooDeep(look.calls);
        }
        CHECKS.end();
    }

    private static void holds(String rule, boolean good) {
        CHECKS.due(rule, good ? 1 : 0, 1);
    }

    /** Goes through the whole program, and keeps which method calls which ones. */
    private static final class Look extends TreePathScanner<Void, Void> {
        final Map<ExecutableElement, Set<ExecutableElement>> calls = new LinkedHashMap<>();
        private final Trees trees;
        private ExecutableElement within = null;

        Look(Trees trees) {
            this.trees = trees;
        }

        private Element here() {
            return trees.getElement(getCurrentPath());
        }

        @Override
        public Void scan(Tree tree, Void nothing) {
            if (tree != null) {
                holds("6: no " + tree.getKind(), !RULED_OUT.contains(tree.getKind()));
            }
            return super.scan(tree, nothing);
        }

        @Override
        public Void visitClass(ClassTree tree, Void nothing) {
            boolean isInside = here().getEnclosingElement().getKind() == ElementKind.CLASS;
            holds("2: " + tree.getSimpleName() + " is static", !isInside || here().getModifiers().contains(Modifier.STATIC));
            holds("2: " + tree.getSimpleName() + " is no local one", within == null);
            return super.visitClass(tree, nothing);
        }

        @Override
        public Void visitMethod(MethodTree tree, Void nothing) {
            within = (ExecutableElement) here();
            calls.put(within, new LinkedHashSet<>());
            super.visitMethod(tree, nothing);
            within = null;
            return null;
        }

        @Override
        public Void visitMethodInvocation(MethodInvocationTree tree, Void nothing) {
            called((ExecutableElement) here());
            return super.visitMethodInvocation(tree, nothing);
        }

        private void called(ExecutableElement to) {
            String name = to.getEnclosingElement() + "." + to.getSimpleName();
            if (!name.startsWith("SignBook")) {
                holds("4: " + name, LIBRARY.contains(name));
            }
            if (within != null && !name.endsWith("<init>")) {
                calls.get(within).add(to);
            }
        }

        /** More than rule 12 asks for: no call makes anything, so no run can make too much. */
        private void made(Tree tree) {
            holds("12: made in a call: " + tree, within == null || within.getKind() == ElementKind.CONSTRUCTOR);
        }

        @Override
        public Void visitNewClass(NewClassTree tree, Void nothing) {
            made(tree);
            holds("2: no anonymous one: " + tree, tree.getClassBody() == null);
            return super.visitNewClass(tree, nothing);
        }

        @Override
        public Void visitNewArray(NewArrayTree tree, Void nothing) {
            made(tree);
            return super.visitNewArray(tree, nothing);
        }

        @Override
        public Void visitForLoop(ForLoopTree tree, Void nothing) {
            String until = String.valueOf(tree.getCondition());
            holds("9: the end of for (.. " + until + " ..)", until.contains("<") || until.contains(">"));
            holds("9: a counter of for (.. " + until + " ..)", !tree.getUpdate().isEmpty());
            return super.visitForLoop(tree, nothing);
        }

        @Override
        public Void visitWhileLoop(WhileLoopTree tree, Void nothing) {
            String until = tree.getCondition().toString();
            holds("9: the end of while " + until, until.contains("<") || until.contains(">"));
            return super.visitWhileLoop(tree, nothing);
        }
    }

    /** Rule 11; methods that call one another count as many as they are, and by rule 8 carry a depth. */
    private static void callsGoNotTooDeep(Map<ExecutableElement, Set<ExecutableElement>> calls) {
        Map<ExecutableElement, Set<ExecutableElement>> reached = new HashMap<>();
        for (ExecutableElement from : calls.keySet()) {
            reached.put(from, reachedFrom(from, calls));
            if (reached.get(from).contains(from)) {
                holds("8: " + from + " carries its depth",
                    from.getParameters().stream().anyMatch(one -> one.getSimpleName().contentEquals("depth")));
            }
        }
        for (ExecutableElement from : calls.keySet()) {
            if (from.getModifiers().contains(Modifier.PUBLIC)) {
                List<String> deepest = deepestFrom(from, calls, reached);
                holds("11: " + deepest.size() + " deep: " + deepest, deepest.size() <= DEEPEST);
            }
        }
    }

    private static Set<ExecutableElement> reachedFrom(ExecutableElement from, Map<ExecutableElement, Set<ExecutableElement>> calls) {
        Set<ExecutableElement> found = new LinkedHashSet<>();
        List<ExecutableElement> left = new ArrayList<>(calls.getOrDefault(from, Set.of()));
        while (!left.isEmpty()) {
            ExecutableElement next = left.remove(left.size() - 1);
            if (found.add(next)) {
                left.addAll(calls.getOrDefault(next, Set.of()));
            }
        }
        return found;
    }

    private static List<String> deepestFrom(ExecutableElement from, Map<ExecutableElement, Set<ExecutableElement>> calls,
            Map<ExecutableElement, Set<ExecutableElement>> reached) {
        Set<ExecutableElement> together = new LinkedHashSet<>(Set.of(from));
        for (ExecutableElement to : reached.getOrDefault(from, Set.of())) {
            if (reached.getOrDefault(to, Set.of()).contains(from)) {
                together.add(to);
            }
        }
        List<String> below = List.of();
        for (ExecutableElement one : together) {
            for (ExecutableElement to : calls.getOrDefault(one, Set.of())) {
                List<String> path = together.contains(to) ? List.of() : deepestFrom(to, calls, reached);
                below = path.size() > below.size() ? path : below;
            }
        }
        List<String> all = new ArrayList<>(together.stream().map(one -> one.getSimpleName().toString()).toList());
        all.addAll(below);
        return all;
    }
}
