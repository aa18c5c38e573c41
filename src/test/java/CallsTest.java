import com.sun.source.tree.ClassTree;
import com.sun.source.tree.CompilationUnitTree;
import com.sun.source.tree.MethodInvocationTree;
import com.sun.source.tree.MethodTree;
import com.sun.source.tree.NewClassTree;
import com.sun.source.util.JavacTask;
import com.sun.source.util.TreePathScanner;
import com.sun.source.util.Trees;
import java.nio.file.Path;
import java.nio.file.Paths;
import java.util.ArrayDeque;
import java.util.Deque;
import java.util.HashMap;
import java.util.Map;
import java.util.Set;
import java.util.TreeSet;
import javax.lang.model.element.Element;
import javax.tools.JavaCompiler;
import javax.tools.StandardJavaFileManager;
import javax.tools.ToolProvider;

/** LANGUAGE.md, rules 8 and 11: calls that are no recursion go at most eight deep; only the Reader calls itself. */
public final class CallsTest {
    private static final int DEEPEST = 8;
    private static final Map<String, Set<String>> CALLED = new HashMap<>();
    private static int wrong = 0;

    private static void tell(String what) {
        wrong++;
        System.out.println(what);
    }

    /** Notes for each method which methods of the file it calls; a constructor is one, too. */
    private static final class Calls extends TreePathScanner<Void, Void> {
        private final Trees trees;
        private final Deque<String> callers = new ArrayDeque<>();

        Calls(Trees trees) {
            this.trees = trees;
        }

        private static String name(Element method) {
            return method.getEnclosingElement().getSimpleName() + "." + method.getSimpleName();
        }

        /** What a field's first value calls is called by the constructor. */
        @Override
        public Void visitClass(ClassTree tree, Void none) {
            callers.push(trees.getElement(getCurrentPath()).getSimpleName() + ".<init>");
            super.visitClass(tree, none);
            callers.pop();
            return null;
        }

        @Override
        public Void visitMethod(MethodTree tree, Void none) {
            callers.push(name(trees.getElement(getCurrentPath())));
            CALLED.computeIfAbsent(callers.peek(), caller -> new TreeSet<>());
            super.visitMethod(tree, none);
            callers.pop();
            return null;
        }

        private void note() {
            Element called = trees.getElement(getCurrentPath());
            if (called != null) {
                CALLED.computeIfAbsent(callers.peek(), caller -> new TreeSet<>()).add(name(called));
            }
        }

        @Override
        public Void visitMethodInvocation(MethodInvocationTree tree, Void none) {
            note();
            return super.visitMethodInvocation(tree, none);
        }

        @Override
        public Void visitNewClass(NewClassTree tree, Void none) {
            note();
            return super.visitNewClass(tree, none);
        }
    }

    private static void readCalls(Path source) throws Exception {
        JavaCompiler compiler = ToolProvider.getSystemJavaCompiler();
        try (StandardJavaFileManager files = compiler.getStandardFileManager(null, null, null)) {
            JavacTask task = (JavacTask) compiler.getTask(null, files, null, null, null,
                    files.getJavaFileObjects(source.toFile()));
            Iterable<? extends CompilationUnitTree> units = task.parse();
            task.analyze();
            for (CompilationUnitTree unit : units) {
                new Calls(Trees.instance(task)).scan(unit, null);
            }
        }
        // What the library calls in its turn is not the program's.
        for (Set<String> called : CALLED.values()) {
            called.retainAll(CALLED.keySet());
        }
    }

    private static Set<String> reached(String from) {
        Set<String> all = new TreeSet<>();
        Deque<String> open = new ArrayDeque<>(CALLED.get(from));
        while (!open.isEmpty()) {
            String one = open.pop();
            if (all.add(one)) {
                open.addAll(CALLED.get(one));
            }
        }
        return all;
    }

    /** The longest chain, in which those that call themselves do not count. */
    private static int depth(String from, Map<String, Set<String>> reached, Set<String> climbed) {
        boolean again = reached.get(from).contains(from);
        int deepest = 0;
        for (String next : CALLED.get(from)) {
            if (climbed.add(next)) {
                deepest = Math.max(deepest, depth(next, reached, climbed));
                climbed.remove(next);
            }
        }
        return deepest + (again ? 0 : 1);
    }

    public static void main(String[] args) throws Exception {
        readCalls(Paths.get(args.length > 0 ? args[0] : "src/main/java/BoughtKin.java"));
        if (CALLED.size() < 100) {
            tell("only " + CALLED.size() + " methods were seen");
        }
        Map<String, Set<String>> reached = new HashMap<>();
        for (String method : CALLED.keySet()) {
            reached.put(method, reached(method));
            if (reached.get(method).contains(method) && !method.startsWith("Reader.")) {
                tell(method + " calls itself");
            }
        }
        int deepest = 0;
        for (String method : CALLED.keySet()) {
            int depth = depth(method, reached, new TreeSet<>(Set.of(method)));
            deepest = Math.max(deepest, depth);
            if (depth > DEEPEST) {
                tell(method + " goes " + depth + " deep");
            }
        }
        System.out.println(wrong == 0 ? "calls go " + deepest + " deep" : wrong + " faults");
        if (wrong != 0) {
            System.exit(1);
        }
    }
}
