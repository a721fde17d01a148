import com.sun.source.tree.ClassTree;
import com.sun.source.tree.CompilationUnitTree;
import com.sun.source.tree.DoWhileLoopTree;
import com.sun.source.tree.ForLoopTree;
import com.sun.source.tree.IdentifierTree;
import com.sun.source.tree.LiteralTree;
import com.sun.source.tree.MethodInvocationTree;
import com.sun.source.tree.MethodTree;
import com.sun.source.tree.NewArrayTree;
import com.sun.source.tree.NewClassTree;
import com.sun.source.tree.Tree;
import com.sun.source.tree.WhileLoopTree;
import com.sun.source.util.JavacTask;
import com.sun.source.util.TreePath;
import com.sun.source.util.TreePathScanner;
import com.sun.source.util.Trees;
import java.io.File;
import java.io.IOException;
import java.util.ArrayDeque;
import java.util.Deque;
import java.util.HashMap;
import java.util.HashSet;
import java.util.List;
import java.util.Map;
import java.util.Set;
import java.util.TreeMap;
import java.util.TreeSet;
import javax.lang.model.element.Element;
import javax.lang.model.element.ElementKind;
import javax.tools.JavaCompiler;
import javax.tools.StandardJavaFileManager;
import javax.tools.ToolProvider;

/** Those rules of LANGUAGE.md that only a reading of the whole code tells: which call goes where, and what is made. */
public final class CodeTest {
    private static final int MOST_DEPTH = 8;
    private static final Set<String> LIBRARY = Set.of("java.lang.Math.max(int,int)", "java.lang.Math.max(long,long)",
        "java.lang.Math.min(int,int)", "java.lang.Math.min(long,long)", "java.lang.Math.floorDiv(int,int)",
        "java.lang.Math.floorMod(int,int)", "java.lang.String.charAt(int)", "java.util.Arrays.fill(int[],int)",
        "java.util.Arrays.fill(long[],long)",
        "java.lang.System.arraycopy(java.lang.Object,int,java.lang.Object,int,int)", "java.lang.Object.Object()");

    private static int wrong = 0;
    /** For each method those of the class that it calls; recursion is taken as one, so its methods share a group. */
    private static final Map<String, Set<String>> calls = new TreeMap<>();

    private CodeTest() {
    }

    private static void must(boolean holds, String what) {
        if (!holds) {
            wrong++;
            System.out.println("not kept: " + what);
        }
    }

    private static final class Reading extends TreePathScanner<Void, Void> {
        private final Trees trees;
        private final CompilationUnitTree unit;
        private final Deque<String> methods = new ArrayDeque<>();
        private boolean inConstructor = false;

        private Reading(Trees trees, CompilationUnitTree unit) {
            this.trees = trees;
            this.unit = unit;
        }

        private static String told(Element element) {
            return element.getEnclosingElement() + "." + (element.getKind() == ElementKind.CONSTRUCTOR
                ? element.getEnclosingElement().getSimpleName() + "()" : element.toString());
        }

        private String line(Tree tree) {
            long at = trees.getSourcePositions().getStartPosition(unit, tree);
            return "line " + unit.getLineMap().getLineNumber(at);
        }

        private void calls(Element called, Tree tree) {
            must(called != null, "a call that is known, " + line(tree));
            if (called == null || methods.isEmpty()) {
                return;
            }
            String name = told(called);
            if (name.startsWith("EvenRota")) {
                calls.get(methods.peek()).add(name);
            } else {
                must(LIBRARY.contains(name), "only the library's own list, " + line(tree) + ": " + name);
            }
        }

        @Override
        public Void visitMethod(MethodTree tree, Void none) {
            Element element = trees.getElement(getCurrentPath());
            methods.push(told(element));
            calls.putIfAbsent(methods.peek(), new TreeSet<>());
            inConstructor = element.getKind() == ElementKind.CONSTRUCTOR;
            super.visitMethod(tree, none);
            inConstructor = false;
            methods.pop();
            return null;
        }

        @Override
        public Void visitMethodInvocation(MethodInvocationTree tree, Void none) {
            calls(trees.getElement(new TreePath(getCurrentPath(), tree.getMethodSelect())), tree);
            return super.visitMethodInvocation(tree, none);
        }

        private void made(Tree tree) {
            must(inConstructor || methods.isEmpty(), "nothing is made outside constructors, " + line(tree));
        }

        @Override
        public Void visitNewClass(NewClassTree tree, Void none) {
            made(tree);
            calls(trees.getElement(getCurrentPath()), tree);
            return super.visitNewClass(tree, none);
        }

        @Override
        public Void visitNewArray(NewArrayTree tree, Void none) {
            made(tree);
            return super.visitNewArray(tree, none);
        }

        @Override
        public Void visitClass(ClassTree tree, Void none) {
            must(methods.isEmpty(), "no class inside a method, " + line(tree));
            return super.visitClass(tree, none);
        }

        @Override
        public Void visitForLoop(ForLoopTree tree, Void none) {
            must(tree.getCondition() != null && !isConstant(tree.getCondition()), "a loop with an end, " + line(tree));
            return super.visitForLoop(tree, none);
        }

        @Override
        public Void visitWhileLoop(WhileLoopTree tree, Void none) {
            String condition = tree.getCondition().toString();
            must(condition.contains("<") || condition.contains(">"), "a loop with a bound, " + line(tree));
            return super.visitWhileLoop(tree, none);
        }

        @Override
        public Void visitDoWhileLoop(DoWhileLoopTree tree, Void none) {
            must(!isConstant(tree.getCondition()), "a loop with an end, " + line(tree));
            return super.visitDoWhileLoop(tree, none);
        }

        private static boolean isConstant(Tree condition) {
            return condition instanceof LiteralTree || condition instanceof IdentifierTree;
        }
    }

    private static Set<String> reachedFrom(String method) {
        Set<String> seen = new HashSet<>();
        Deque<String> open = new ArrayDeque<>(calls.getOrDefault(method, Set.of()));
        while (!open.isEmpty()) {
            String next = open.pop();
            if (seen.add(next)) {
                open.addAll(calls.getOrDefault(next, Set.of()));
            }
        }
        return seen;
    }

    /** How many calls stand open at once at most, each method of a recursion counted once. */
    private static int depth(String method, Map<String, Set<String>> reached, Set<String> standing, Map<String, Integer> known) {
        boolean recursion = reached.get(method).contains(method);
        if (!recursion && known.containsKey(method)) {
            return known.get(method);
        }
        int deepest = 0;
        standing.add(method);
        for (String next : calls.getOrDefault(method, Set.of())) {
            if (calls.containsKey(next) && !standing.contains(next)) {
                deepest = Math.max(deepest, depth(next, reached, standing, known));
            }
        }
        standing.remove(method);
        if (!recursion) {
            known.put(method, deepest + 1);
        }
        return deepest + 1;
    }

    private static void read(String path) throws IOException {
        JavaCompiler compiler = ToolProvider.getSystemJavaCompiler();
        try (StandardJavaFileManager files = compiler.getStandardFileManager(null, null, null)) {
            JavacTask task = (JavacTask) compiler.getTask(null, files, null, List.of("-proc:none"), null,
                files.getJavaFileObjects(new File(path)));
            Iterable<? extends CompilationUnitTree> units = task.parse();
            task.analyze();
            for (CompilationUnitTree unit : units) {
                must(unit.getPackageName() == null, "no package line");
                new Reading(Trees.instance(task), unit).scan(unit, null);
            }
        }
    }

    public static void main(String[] args) throws IOException {
        read(args.length > 0 ? args[0] : "src/main/java/EvenRota.java");
        must(calls.containsKey("EvenRota.house()"), "the class was read");
        Map<String, Set<String>> reached = new HashMap<>();
        for (String method : calls.keySet()) {
            reached.put(method, reachedFrom(method));
        }
        int deepest = 0;
        Map<String, Integer> known = new HashMap<>();
        for (String method : calls.keySet()) {
            int depth = depth(method, reached, new HashSet<>(), known);
            deepest = Math.max(deepest, depth);
            must(depth <= MOST_DEPTH, "calls at most eight deep: " + depth + " from " + method);
        }
        System.out.println("CodeTest: " + calls.size() + " methods, calls " + deepest + " deep, " + wrong + " not kept");
        System.exit(wrong == 0 ? 0 : 1);
    }
}
