import com.sun.source.tree.CompilationUnitTree;
import com.sun.source.tree.MethodInvocationTree;
import com.sun.source.tree.MethodTree;
import com.sun.source.tree.NewClassTree;
import com.sun.source.util.JavacTask;
import com.sun.source.util.TreePathScanner;
import com.sun.source.util.Trees;
import java.io.IOException;
import java.nio.file.Path;
import java.util.HashSet;
import java.util.LinkedHashMap;
import java.util.LinkedHashSet;
import java.util.Map;
import java.util.Set;
import javax.lang.model.element.Element;
import javax.lang.model.element.ExecutableElement;
import javax.lang.model.element.VariableElement;
import javax.tools.StandardJavaFileManager;
import javax.tools.ToolProvider;

/** Those rules of LANGUAGE.md that can be seen in who calls whom: 4 (the library), 8 (recursion), 11 (how deep). */
public final class CallsTest {
    private static final int DEEPEST = 8;
    private static final Map<String, Set<String>> LIBRARY = Map.of(
        "java.lang.Object", Set.of("<init>"),
        "java.lang.String", Set.of("length", "charAt", "isEmpty", "equals", "indexOf", "substring", "toCharArray"),
        "java.lang.StringBuilder", Set.of("<init>", "append", "charAt", "setCharAt", "setLength", "deleteCharAt",
            "reverse", "length", "toString"),
        "java.util.ArrayList", Set.of("<init>", "add", "get", "set", "remove", "size", "isEmpty", "clear"),
        "java.util.List", Set.of("add", "get", "set", "remove", "size", "isEmpty", "clear", "of"),
        "java.lang.System", Set.of("arraycopy"),
        "java.util.Arrays", Set.of("copyOf", "copyOfRange", "fill"),
        "Array", Set.of("clone"));
    private static final Set<String> NUMBERS = Set.of("java.lang.Integer", "java.lang.Long", "java.lang.Math");
    private static final Checks checks = new Checks("CallsTest");

    private final Map<ExecutableElement, Set<ExecutableElement>> calls = new LinkedHashMap<>();

    public static void main(String[] args) throws IOException {
        CallsTest test = new CallsTest();
        test.findCalls();
        for (ExecutableElement method : test.calls.keySet()) {
            test.look(method);
        }
        checks.end();
    }

    private void findCalls() throws IOException {
        var compiler = ToolProvider.getSystemJavaCompiler();
        try (StandardJavaFileManager files = compiler.getStandardFileManager(null, null, null)) {
            var source = files.getJavaFileObjects(Path.of("src/main/java/FlowFold.java"));
            JavacTask task = (JavacTask) compiler.getTask(null, files, null, null, null, source);
            Iterable<? extends CompilationUnitTree> units = task.parse();
            task.analyze();
            for (CompilationUnitTree unit : units) {
                new Finder(Trees.instance(task)).scan(unit, null);
            }
        }
    }

    private void look(ExecutableElement method) {
        int deep = deepest(method, new HashSet<>());
        checks.due(told(method) + " goes " + deep + " deep", deep <= DEEPEST ? 1 : 0, 1);
        if (reaches(method, method, new HashSet<>())) {
            boolean counts = method.getParameters().stream().anyMatch(CallsTest::isInt);
            checks.due(told(method) + " calls itself and carries a number", counts ? 1 : 0, 1);
        }
        for (ExecutableElement called : calls.get(method)) {
            checks.due(told(method) + " may call " + told(called), allowed(called) ? 1 : 0, 1);
        }
    }

    // No method counts twice: what comes again is recursion.
    private int deepest(ExecutableElement method, Set<ExecutableElement> open) {
        if (!open.add(method)) {
            return 0;
        }
        int most = 0;
        for (ExecutableElement called : calls.getOrDefault(method, Set.of())) {
            most = Math.max(most, deepest(called, open));
        }
        open.remove(method);
        return 1 + most;
    }

    private boolean reaches(ExecutableElement from, ExecutableElement to, Set<ExecutableElement> seen) {
        for (ExecutableElement called : calls.getOrDefault(from, Set.of())) {
            if (called.equals(to) || seen.add(called) && reaches(called, to, seen)) {
                return true;
            }
        }
        return false;
    }

    private boolean allowed(ExecutableElement called) {
        String owner = called.getEnclosingElement().toString();
        String name = called.getSimpleName().toString();
        if (NUMBERS.contains(owner)) {
            return !name.endsWith("Exact") && called.getParameters().stream().allMatch(CallsTest::isWhole);
        }
        return calls.containsKey(called) || LIBRARY.getOrDefault(owner, Set.of()).contains(name);
    }

    private static boolean isInt(VariableElement parameter) {
        return parameter.asType().toString().equals("int");
    }

    private static boolean isWhole(VariableElement parameter) {
        return isInt(parameter) || parameter.asType().toString().equals("long");
    }

    private static String told(ExecutableElement method) {
        return method.getEnclosingElement() + "." + method;
    }

    /** Notes for each method which others it calls; what a field's first value calls counts for no method. */
    private final class Finder extends TreePathScanner<Void, Void> {
        private final Trees trees;
        private ExecutableElement within;

        Finder(Trees trees) {
            this.trees = trees;
        }

        @Override
        public Void visitMethod(MethodTree method, Void nothing) {
            within = (ExecutableElement) trees.getElement(getCurrentPath());
            calls.put(within, new LinkedHashSet<>());
            super.visitMethod(method, nothing);
            within = null;
            return null;
        }

        @Override
        public Void visitMethodInvocation(MethodInvocationTree call, Void nothing) {
            note(trees.getElement(getCurrentPath()));
            return super.visitMethodInvocation(call, nothing);
        }

        @Override
        public Void visitNewClass(NewClassTree made, Void nothing) {
            note(trees.getElement(getCurrentPath()));
            return super.visitNewClass(made, nothing);
        }

        private void note(Element called) {
            checks.due("a call that is known", called instanceof ExecutableElement ? 1 : 0, 1);
            if (within != null && called instanceof ExecutableElement method) {
                calls.get(within).add(method);
            }
        }
    }
}
