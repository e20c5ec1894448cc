import com.sun.source.tree.ClassTree;
import com.sun.source.tree.CompilationUnitTree;
import com.sun.source.tree.MethodInvocationTree;
import com.sun.source.tree.MethodTree;
import com.sun.source.tree.NewClassTree;
import com.sun.source.tree.Tree;
import com.sun.source.tree.VariableTree;
import com.sun.source.util.JavacTask;
import com.sun.source.util.TreePathScanner;
import com.sun.source.util.Trees;
import java.io.IOException;
import java.nio.file.Path;
import java.util.ArrayList;
import java.util.LinkedHashMap;
import java.util.LinkedHashSet;
import java.util.List;
import java.util.Map;
import java.util.Set;
import javax.lang.model.element.Element;
import javax.lang.model.element.ExecutableElement;
import javax.lang.model.element.Modifier;
import javax.tools.JavaCompiler;
import javax.tools.StandardJavaFileManager;
import javax.tools.ToolProvider;

/** Rules 8 and 11 of LANGUAGE.md, told from the source as the compiler reads it: who calls whom, how deep, with how many fields. */
public final class CallDepth {
    private static final int DEEPEST = 8;
    private static final int MOST_FIELDS = 20;

    private static final Map<Element, Set<Element>> CALLS = new LinkedHashMap<>();
    private static int wrong = 0;
    private static int deepest = 0;

    public static void main(String[] args) throws IOException {
        Path root = Path.of(args.length > 0 ? args[0] : ".");
        scan(root.resolve("src/main/java/SingleCopy.java"));
        for (Element method : CALLS.keySet()) {
            follow(method, new ArrayList<>());
        }
        if (CALLS.size() < 40) {
            tell("few methods were read: " + CALLS.size());
        }
        System.out.println(wrong == 0 ? "calls go " + deepest + " deep" : wrong + " rules are broken");
        if (wrong != 0) {
            System.exit(1);
        }
    }

    private static void tell(String what) {
        wrong++;
        System.out.println(what);
    }

    private static void scan(Path source) throws IOException {
        JavaCompiler compiler = ToolProvider.getSystemJavaCompiler();
        try (StandardJavaFileManager files = compiler.getStandardFileManager(null, null, null)) {
            JavacTask task = (JavacTask) compiler.getTask(null, files, null, null, null, files.getJavaFileObjects(source));
            Iterable<? extends CompilationUnitTree> units = task.parse();
            task.analyze();
            Trees trees = Trees.instance(task);
            for (CompilationUnitTree unit : units) {
                new Callers(trees).scan(unit, null);
            }
        }
    }

    /** Every way on from here; a method that stands in it already calls itself. */
    private static void follow(Element method, List<Element> open) {
        if (open.contains(method)) {
            boolean itself = open.get(open.size() - 1).equals(method);
            if (!itself || !method.getModifiers().containsAll(Set.of(Modifier.PRIVATE, Modifier.STATIC))) {
                tell("a recursion that is not a private static method's own: " + open + " " + method);
            }
            return;
        }
        List<Element> way = new ArrayList<>(open);
        way.add(method);
        deepest = Math.max(deepest, way.size());
        if (way.size() > DEEPEST) {
            tell("calls go deeper than " + DEEPEST + ": " + way);
            return;
        }
        for (Element called : CALLS.getOrDefault(method, Set.of())) {
            follow(called, way);
        }
    }

    /** Writes down each method's calls of the program's own methods, and looks at each class's fields. */
    private static final class Callers extends TreePathScanner<Void, Void> {
        private final Trees trees;
        private Element caller;

        Callers(Trees trees) {
            this.trees = trees;
        }

        @Override
        public Void visitClass(ClassTree type, Void none) {
            long fields = type.getMembers().stream().filter(m -> m.getKind() == Tree.Kind.VARIABLE)
                .filter(m -> !((VariableTree) m).getModifiers().getFlags().contains(Modifier.STATIC)).count();
            if (fields > MOST_FIELDS) {
                tell("more than " + MOST_FIELDS + " fields: " + type.getSimpleName());
            }
            return super.visitClass(type, none);
        }

        @Override
        public Void visitMethod(MethodTree method, Void none) {
            caller = trees.getElement(getCurrentPath());
            CALLS.putIfAbsent(caller, new LinkedHashSet<>());
            if (method.getParameters().size() > 7) {
                tell("more than seven parameters: " + caller);
            }
            super.visitMethod(method, none);
            caller = null;
            return null;
        }

        @Override
        public Void visitMethodInvocation(MethodInvocationTree call, Void none) {
            called();
            return super.visitMethodInvocation(call, none);
        }

        @Override
        public Void visitNewClass(NewClassTree made, Void none) {
            called();
            return super.visitNewClass(made, none);
        }

        private void called() {
            Element method = trees.getElement(getCurrentPath());
            if (caller != null && method instanceof ExecutableElement && trees.getTree(method) != null) {
                CALLS.get(caller).add(method);
            }
        }
    }
}
