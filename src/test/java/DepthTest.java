import com.sun.source.tree.CompilationUnitTree;
import com.sun.source.tree.MethodInvocationTree;
import com.sun.source.tree.MethodTree;
import com.sun.source.tree.NewClassTree;
import com.sun.source.util.JavacTask;
import com.sun.source.util.TreePath;
import com.sun.source.util.TreePathScanner;
import com.sun.source.util.Trees;
import java.nio.file.Path;
import java.util.ArrayDeque;
import java.util.Deque;
import java.util.HashSet;
import java.util.LinkedHashMap;
import java.util.Map;
import java.util.Set;
import javax.lang.model.element.Element;
import javax.tools.JavaCompiler;
import javax.tools.StandardJavaFileManager;
import javax.tools.ToolProvider;

/** LANGUAGE.md, rule 11: how deep calls go; methods that call one another count as one. */
final class DepthTest {
    private static final int DEEPEST = 8;

    private final Map<Element, Set<Element>> calls = new LinkedHashMap<>();
    private final Map<Element, Set<Element>> reached = new LinkedHashMap<>();

    private DepthTest() {
    }

    public static void main(String[] args) throws Exception {
        Checks checks = new Checks();
        DepthTest test = new DepthTest();
        test.scan(Path.of(args.length > 0 ? args[0] : "src/main/java/WatchLots.java"));
        checks.due("methods were found", true, test.calls.size() > 100);
        for (Element method : test.calls.keySet()) {
            int depth = test.depth(method);
            checks.due("calls from " + method + " go " + depth + " deep", true, depth <= DEEPEST);
        }
        checks.end();
    }

    private void scan(Path source) throws Exception {
        JavaCompiler compiler = ToolProvider.getSystemJavaCompiler();
        try (StandardJavaFileManager files = compiler.getStandardFileManager(null, null, null)) {
            JavacTask task = (JavacTask) compiler.getTask(null, files, null, null, null,
                    files.getJavaFileObjects(source));
            Iterable<? extends CompilationUnitTree> units = task.parse();
            task.analyze();
            new Scanner(Trees.instance(task)).scan(units, null);
        }
        for (Element method : calls.keySet()) {
            calls.get(method).retainAll(calls.keySet());
        }
        for (Element method : calls.keySet()) {
            reached.put(method, reach(method));
        }
    }

    private final class Scanner extends TreePathScanner<Void, Void> {
        private final Trees trees;
        private Element caller = null;

        Scanner(Trees trees) {
            this.trees = trees;
        }

        @Override
        public Void visitMethod(MethodTree tree, Void none) {
            caller = trees.getElement(getCurrentPath());
            calls.put(caller, new HashSet<>());
            super.visitMethod(tree, none);
            caller = null;
            return null;
        }

        @Override
        public Void visitMethodInvocation(MethodInvocationTree tree, Void none) {
            note(trees.getElement(new TreePath(getCurrentPath(), tree.getMethodSelect())));
            return super.visitMethodInvocation(tree, none);
        }

        @Override
        public Void visitNewClass(NewClassTree tree, Void none) {
            note(trees.getElement(getCurrentPath()));
            return super.visitNewClass(tree, none);
        }

        private void note(Element called) {
            if (caller != null) {
                calls.get(caller).add(called);
            }
        }
    }

    private Set<Element> reach(Element method) {
        Set<Element> all = new HashSet<>();
        Deque<Element> open = new ArrayDeque<>(calls.get(method));
        while (!open.isEmpty()) {
            Element next = open.pop();
            if (all.add(next)) {
                open.addAll(calls.get(next));
            }
        }
        return all;
    }

    private boolean isOne(Element method, Element other) {
        return method == other || reached.get(method).contains(other) && reached.get(other).contains(method);
    }

    private int depth(Element method) {
        int deepest = 0;
        for (Element one : calls.keySet()) {
            if (isOne(method, one)) {
                for (Element called : calls.get(one)) {
                    if (!isOne(method, called)) {
                        deepest = Math.max(deepest, depth(called));
                    }
                }
            }
        }
        return 1 + deepest;
    }
}
