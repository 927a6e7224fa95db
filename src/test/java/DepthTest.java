import com.sun.source.tree.CompilationUnitTree;
import com.sun.source.tree.MethodInvocationTree;
import com.sun.source.tree.MethodTree;
import com.sun.source.util.JavacTask;
import com.sun.source.util.TreePath;
import com.sun.source.util.TreePathScanner;
import com.sun.source.util.Trees;
import java.io.File;
import java.io.IOException;
import java.util.HashMap;
import java.util.LinkedHashMap;
import java.util.List;
import java.util.Map;
import java.util.Set;
import java.util.TreeSet;
import javax.lang.model.element.Element;
import javax.tools.JavaCompiler;
import javax.tools.StandardJavaFileManager;
import javax.tools.ToolProvider;

/** Rules 8 and 11 of LANGUAGE.md: calls that are no recursion go eight deep at most; who calls itself is known. */
final class DepthTest {
    private static final Due DUE = new Due();
    private static final int DEEPEST = 8;

    private static final Map<String, Set<String>> CALLS = new LinkedHashMap<>();
    private static final Map<String, Set<String>> REACHED = new HashMap<>();
    private static final Map<String, Integer> DEPTHS = new HashMap<>();

    public static void main(String[] args) throws IOException {
        readSource();
        for (String method : CALLS.keySet()) {
            Set<String> reached = new TreeSet<>();
            reach(method, reached);
            REACHED.put(method, reached);
        }
        DUE.is("many methods are seen", CALLS.size() > 100, true);
        int deepest = 0;
        for (String method : CALLS.keySet()) {
            int depth = depth(method);
            deepest = Math.max(deepest, depth);
            DUE.is(method + " goes " + depth + " deep", depth <= DEEPEST, true);
            boolean isRecursive = REACHED.get(method).contains(method);
            DUE.is(method + " is recursive", isRecursive && !method.startsWith("ToadBank.LawReader."), false);
        }
        DUE.is("what is seen is deep", deepest > 5, true);
        DUE.end();
    }

    private static void readSource() throws IOException {
        JavaCompiler compiler = ToolProvider.getSystemJavaCompiler();
        try (StandardJavaFileManager files = compiler.getStandardFileManager(null, null, null)) {
            JavacTask task = (JavacTask) compiler.getTask(null, files, null, List.of("-proc:none"), null,
                files.getJavaFileObjects(new File("src/main/java/ToadBank.java")));
            Iterable<? extends CompilationUnitTree> units = task.parse();
            task.analyze();
            for (CompilationUnitTree unit : units) {
                new CallReader(Trees.instance(task)).scan(new TreePath(unit), null);
            }
        }
    }

    private static final class CallReader extends TreePathScanner<Void, Void> {
        private final Trees trees;
        private String caller = null;

        CallReader(Trees trees) {
            this.trees = trees;
        }

        private String nameOf(Element method) {
            return method.getEnclosingElement() + "." + method;
        }

        @Override
        public Void visitMethod(MethodTree method, Void none) {
            caller = nameOf(trees.getElement(getCurrentPath()));
            CALLS.putIfAbsent(caller, new TreeSet<>());
            return super.visitMethod(method, none);
        }

        @Override
        public Void visitMethodInvocation(MethodInvocationTree call, Void none) {
            Element called = trees.getElement(getCurrentPath());
            boolean isMade = called != null && called.getSimpleName().contentEquals("<init>");
            if (caller != null && called != null && !isMade && nameOf(called).startsWith("ToadBank")) {
                CALLS.get(caller).add(nameOf(called));
            }
            return super.visitMethodInvocation(call, none);
        }
    }

    private static void reach(String method, Set<String> reached) {
        for (String called : CALLS.getOrDefault(method, Set.of())) {
            if (reached.add(called)) {
                reach(called, reached);
            }
        }
    }

    /** How many calls stand open at most, those that call one another counted as one. */
    private static int depth(String method) {
        Integer known = DEPTHS.get(method);
        if (known != null) {
            return known;
        }
        Set<String> together = new TreeSet<>();
        together.add(method);
        for (String other : REACHED.get(method)) {
            if (REACHED.getOrDefault(other, Set.of()).contains(method)) {
                together.add(other);
            }
        }
        int deepest = 0;
        for (String one : together) {
            for (String called : CALLS.get(one)) {
                DUE.is(called + " is seen", CALLS.containsKey(called), true);
                if (!together.contains(called)) {
                    deepest = Math.max(deepest, depth(called));
                }
            }
        }
        DEPTHS.put(method, deepest + 1);
        return deepest + 1;
    }
}
