import com.sun.source.tree.ArrayAccessTree;
import com.sun.source.tree.ClassTree;
import com.sun.source.tree.CompilationUnitTree;
import com.sun.source.tree.MemberSelectTree;
import com.sun.source.tree.MethodInvocationTree;
import com.sun.source.tree.MethodTree;
import com.sun.source.tree.NewArrayTree;
import com.sun.source.tree.NewClassTree;
import com.sun.source.util.JavacTask;
import com.sun.source.util.TreePathScanner;
import com.sun.source.util.Trees;
import java.nio.file.Path;
import java.util.Arrays;
import java.util.HashSet;
import java.util.List;
import java.util.Map;
import java.util.Set;
import java.util.TreeMap;
import java.util.TreeSet;
import javax.lang.model.element.Element;
import javax.lang.model.element.ElementKind;
import javax.lang.model.element.ExecutableElement;
import javax.lang.model.element.Modifier;
import javax.tools.JavaCompiler;
import javax.tools.StandardJavaFileManager;
import javax.tools.ToolProvider;

/** The rules of LANGUAGE.md that need the compiler's own reading of the source. */
public final class SourceTest {
    private static final int DEEPEST = 8;
    private static final Set<String> LIBRARY = new HashSet<>(Arrays.asList("java.lang.Integer.bitCount",
        "java.lang.Integer.numberOfTrailingZeros", "java.lang.Math.max", "java.lang.Math.min", "java.lang.Math.floorDiv",
        "java.lang.Math.floorMod", "java.lang.System.arraycopy", "java.util.Arrays.fill"));
    private final Trees trees;
    private final Map<String, Set<String>> calls = new TreeMap<>();
    private final Map<String, ExecutableElement> own = new TreeMap<>();
    private int wrong = 0;

    public static void main(String[] args) throws Exception {
        Path source = Path.of(System.getProperty("topyard.source", "src/main/java/TopYard.java"));
        JavaCompiler compiler = ToolProvider.getSystemJavaCompiler();
        try (StandardJavaFileManager files = compiler.getStandardFileManager(null, null, null)) {
            List<String> options = List.of("-proc:none");
            JavacTask task = (JavacTask) compiler.getTask(null, files, null, options, null, files.getJavaFileObjects(source));
            SourceTest test = new SourceTest(Trees.instance(task));
            Iterable<? extends CompilationUnitTree> units = task.parse();
            task.analyze();
            for (CompilationUnitTree unit : units) test.new Reader().scan(unit, null);
            test.depths();
            System.out.println(test.wrong == 0 ? "the rules are kept" : test.wrong + " rules are broken");
            if (test.wrong != 0) System.exit(1);
        }
    }

    private SourceTest(Trees trees) {
        this.trees = trees;
    }

    private void rule(int number, boolean kept, String what) {
        if (!kept) {
            wrong++;
            System.out.println("rule " + number + ": " + what);
        }
    }

    private static String nameOf(Element method) {
        return method.getEnclosingElement() + "." + method;
    }

    /** Collects who calls whom, and what is used as it may not be. */
    private final class Reader extends TreePathScanner<Void, Void> {
        private String within = "";
        private boolean constructing = true;

        @Override
        public Void visitMethod(MethodTree tree, Void none) {
            ExecutableElement method = (ExecutableElement) trees.getElement(getCurrentPath());
            String outer = within;
            within = nameOf(method);
            constructing = method.getKind() == ElementKind.CONSTRUCTOR;
            own.put(within, method);
            calls.put(within, new TreeSet<>());
            rule(11, tree.getParameters().size() <= 7, within + " takes too much");
            super.visitMethod(tree, none);
            within = outer;
            constructing = true;
            return null;
        }

        @Override
        public Void visitMethodInvocation(MethodInvocationTree tree, Void none) {
            Element method = trees.getElement(getCurrentPath());
            Element owner = method.getEnclosingElement();
            if (owner.toString().startsWith("TopYard")) {
                calls.get(within).add(nameOf(method));
            } else if (method.getKind() != ElementKind.CONSTRUCTOR) {
                String name = owner + "." + method.getSimpleName();
                rule(4, LIBRARY.contains(name), within + " calls " + name);
            }
            return super.visitMethodInvocation(tree, none);
        }

        @Override
        public Void visitMemberSelect(MemberSelectTree tree, Void none) {
            boolean element = tree.getExpression() instanceof ArrayAccessTree;
            rule(7, !element, within + " uses " + tree + " without a look at null");
            boolean answer = tree.getExpression() instanceof MethodInvocationTree;
            rule(7, !answer, within + " uses " + tree + " without a look at null");
            return super.visitMemberSelect(tree, none);
        }

        /** Only top() keeps what it makes, and only FULL bounds it. */
        @Override
        public Void visitNewClass(NewClassTree tree, Void none) {
            boolean making = constructing || within.startsWith("TopYard.top(");
            rule(12, making, within + " makes " + tree);
            return super.visitNewClass(tree, none);
        }

        @Override
        public Void visitNewArray(NewArrayTree tree, Void none) {
            rule(12, constructing, within + " makes " + tree);
            return super.visitNewArray(tree, none);
        }

        @Override
        public Void visitClass(ClassTree tree, Void none) {
            rule(2, !tree.getSimpleName().toString().isEmpty(), "a class without a name in " + within);
            return super.visitClass(tree, none);
        }
    }

    private void depths() {
        int deepest = 0;
        for (String method : calls.keySet()) deepest = Math.max(deepest, depth(method, List.of()));
        rule(11, deepest <= DEEPEST, "calls go " + deepest + " deep");
        rule(11, deepest > 3, "the calls were not found");
    }

    /** A method that calls itself counts once; a longer ring of calls is a fault. */
    private int depth(String method, List<String> open) {
        if (open.contains(method)) {
            rule(8, false, open + " end in " + method);
            return 0;
        }
        List<String> chain = new java.util.ArrayList<>(open);
        chain.add(method);
        int below = 0;
        for (String called : calls.getOrDefault(method, Set.of())) {
            if (called.equals(method)) {
                Set<Modifier> how = own.get(method).getModifiers();
                rule(8, how.contains(Modifier.PRIVATE) && how.contains(Modifier.STATIC), method + " calls itself");
            } else {
                below = Math.max(below, depth(called, chain));
            }
        }
        return 1 + below;
    }
}
