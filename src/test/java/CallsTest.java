import com.sun.source.tree.ClassTree;
import com.sun.source.tree.MethodInvocationTree;
import com.sun.source.tree.MethodTree;
import com.sun.source.tree.NewArrayTree;
import com.sun.source.tree.NewClassTree;
import com.sun.source.tree.CompilationUnitTree;
import com.sun.source.util.JavacTask;
import com.sun.source.util.TreePathScanner;
import com.sun.source.util.Trees;
import java.io.File;
import java.util.ArrayList;
import java.util.Collections;
import java.util.LinkedHashMap;
import java.util.LinkedHashSet;
import java.util.List;
import java.util.Map;
import java.util.Set;
import java.util.TreeSet;
import javax.lang.model.element.Element;
import javax.lang.model.element.ElementKind;
import javax.lang.model.element.Modifier;
import javax.tools.JavaCompiler;
import javax.tools.StandardJavaFileManager;
import javax.tools.ToolProvider;

/** The rules of LANGUAGE.md on who calls whom: how deep (11), what recurs (8), where objects are made (12). */
public final class CallsTest {
    private static final File SOURCE = new File("src/main/java/NeverHalted.java");
    private static final int DEEPEST = 8;
    /** Each of these carries its depth, or what is left, as an argument, and refuses to go on at its bound. */
    private static final Set<String> RECURRING = Set.of("Shifts.leastSet", "Reader.readsCondition",
        "Reader.readsComparison", "FitSearch.walkFrom");

    private final Map<Element, Set<Element>> calls = new LinkedHashMap<>();
    private final Set<String> makers = new TreeSet<>();

    public static void main(String[] args) throws Exception {
        CallsTest test = new CallsTest();
        test.readSource();
        test.recursionIsPrivate();
        test.chainsAreShort();
        test.onlyConstructorsMakeObjects();
        Due.close();
    }

    private void readSource() throws Exception {
        JavaCompiler compiler = ToolProvider.getSystemJavaCompiler();
        try (StandardJavaFileManager files = compiler.getStandardFileManager(null, null, null)) {
            JavacTask task = (JavacTask) compiler.getTask(null, files, null, null, null, files.getJavaFileObjects(SOURCE));
            Trees trees = Trees.instance(task);
            Iterable<? extends CompilationUnitTree> units = task.parse();
            task.analyze();
            for (CompilationUnitTree unit : units) {
                new Scanner(trees).scan(unit, null);
            }
        }
        Due.yes("the class has methods", calls.size() > 60);
    }

    /** Walks the tree with the method in which it is; what stands in a field's initialiser has none. */
    private final class Scanner extends TreePathScanner<Void, Void> {
        private final Trees trees;
        private Element within;

        Scanner(Trees trees) {
            this.trees = trees;
        }

        @Override
        public Void visitClass(ClassTree tree, Void none) {
            Element before = within;
            within = null;
            super.visitClass(tree, none);
            within = before;
            return null;
        }

        @Override
        public Void visitMethod(MethodTree tree, Void none) {
            within = trees.getElement(getCurrentPath());
            calls.computeIfAbsent(within, e -> new LinkedHashSet<>());
            super.visitMethod(tree, none);
            within = null;
            return null;
        }

        @Override
        public Void visitMethodInvocation(MethodInvocationTree tree, Void none) {
            called(trees.getElement(getCurrentPath()));
            return super.visitMethodInvocation(tree, none);
        }

        @Override
        public Void visitNewClass(NewClassTree tree, Void none) {
            called(trees.getElement(getCurrentPath()));
            made();
            return super.visitNewClass(tree, none);
        }

        @Override
        public Void visitNewArray(NewArrayTree tree, Void none) {
            made();
            return super.visitNewArray(tree, none);
        }

        private void called(Element callee) {
            if (within != null && isOwn(callee)) {
                calls.get(within).add(callee);
            }
        }

        private void made() {
            if (within != null && within.getKind() != ElementKind.CONSTRUCTOR) {
                makers.add(nameOf(within));
            }
        }
    }

    private static boolean isOwn(Element method) {
        Element top = method;
        while (top.getEnclosingElement().getKind() != ElementKind.PACKAGE) {
            top = top.getEnclosingElement();
        }
        return top.getSimpleName().contentEquals("NeverHalted");
    }

    private static String nameOf(Element method) {
        return method.getEnclosingElement().getSimpleName() + "." + method.getSimpleName();
    }

    private Set<Element> reachedFrom(Element method) {
        Set<Element> reached = new LinkedHashSet<>();
        List<Element> open = new ArrayList<>(callsOf(method));
        while (!open.isEmpty()) {
            Element next = open.remove(open.size() - 1);
            if (reached.add(next)) {
                open.addAll(callsOf(next));
            }
        }
        return reached;
    }

    private Set<Element> callsOf(Element method) {
        return calls.getOrDefault(method, Collections.emptySet());
    }

    private void recursionIsPrivate() {
        Set<String> recurring = new TreeSet<>();
        for (Element method : calls.keySet()) {
            if (reachedFrom(method).contains(method)) {
                recurring.add(nameOf(method));
                Due.yes(nameOf(method) + " recurs and is private", method.getModifiers().contains(Modifier.PRIVATE));
            }
        }
        Due.yes("those that recur: " + recurring, recurring.equals(new TreeSet<>(RECURRING)));
    }

    /** Of methods that call one another each counts once. */
    private void chainsAreShort() {
        for (Element method : calls.keySet()) {
            List<String> chain = longestFrom(method, new LinkedHashSet<>());
            Due.yes("how deep it goes: " + chain, chain.size() <= DEEPEST);
        }
    }

    private List<String> longestFrom(Element method, Set<Element> open) {
        List<String> longest = new ArrayList<>();
        open.add(method);
        for (Element next : callsOf(method)) {
            if (!open.contains(next)) {
                List<String> chain = longestFrom(next, open);
                longest = chain.size() > longest.size() ? chain : longest;
            }
        }
        open.remove(method);
        longest.add(0, nameOf(method));
        return longest;
    }

    private void onlyConstructorsMakeObjects() {
        Due.yes("methods that make objects or arrays: " + makers, makers.isEmpty());
    }
}
