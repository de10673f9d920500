import com.sun.source.tree.CatchTree;
import com.sun.source.tree.CompilationUnitTree;
import com.sun.source.tree.ForLoopTree;
import com.sun.source.tree.MethodInvocationTree;
import com.sun.source.tree.MethodTree;
import com.sun.source.tree.NewClassTree;
import com.sun.source.tree.ThrowTree;
import com.sun.source.tree.WhileLoopTree;
import com.sun.source.util.JavacTask;
import com.sun.source.util.TreePathScanner;
import com.sun.source.util.Trees;
import java.io.File;
import java.io.IOException;
import java.util.LinkedHashMap;
import java.util.LinkedHashSet;
import java.util.List;
import java.util.Map;
import java.util.Set;
import java.util.TreeSet;
import javax.lang.model.element.Element;
import javax.tools.JavaCompiler;
import javax.tools.StandardJavaFileManager;
import javax.tools.ToolProvider;

/** Who calls whom in the class, as javac itself reads it: LANGUAGE.md's rules 4, 6, 8, 9, 11 and 12. */
public final class CallsTest {
    private static final Check CHECK = new Check();
    private static final File SOURCE = new File("src/main/java/SlopeCompiler.java");
    private static final Set<String> LIBRARY = Set.of("java.util.Arrays.fill", "java.lang.System.arraycopy", "java.lang.Math.max",
            "java.lang.Math.min", "java.lang.Object.<init>", "java.lang.IndexOutOfBoundsException.<init>",
            "java.util.NoSuchElementException.<init>");
    private static final Set<String> RECURSIVE = Set.of("Parser.expression", "Parser.factor", "Parser.bracket", "Walk.lay");
    private static final int DEEPEST = 8;

    private static final Map<String, Set<String>> CALLS = new LinkedHashMap<>();
    private static final Set<String> THROWS = new TreeSet<>();
    private static int catches;
    private static int endlessLoops;

    private CallsTest() {
    }

    public static void main(String[] args) throws IOException {
        read();
        CHECK.at("the source");
        yes("methods are found", CALLS.size() > 100);
        onlyTheListedLibrary();
        onlyTheseCallThemselves();
        noChainIsTooLong();
        CHECK.at("rule 6");
        yes("code alone throws: " + THROWS, THROWS.equals(Set.of("SlopeCompiler.code")));
        CHECK.due("catches", catches, 0);
        CHECK.at("rule 9");
        CHECK.due("loops without a condition", endlessLoops, 0);
        CHECK.end("CallsTest");
    }

    private static void yes(String what, boolean holds) {
        CHECK.due(what, holds ? 1 : 0, 1);
    }

    private static void read() throws IOException {
        JavaCompiler compiler = ToolProvider.getSystemJavaCompiler();
        try (StandardJavaFileManager files = compiler.getStandardFileManager(null, null, null)) {
            JavacTask task = (JavacTask) compiler.getTask(null, files, null, List.of("-proc:none"), null,
                    files.getJavaFileObjects(SOURCE));
            Iterable<? extends CompilationUnitTree> units = task.parse();
            task.analyze();
            Reader reader = new Reader(Trees.instance(task));
            for (CompilationUnitTree unit : units) {
                reader.scan(unit, null);
            }
        }
    }

    private static void onlyTheListedLibrary() {
        CHECK.at("rule 4");
        for (Map.Entry<String, Set<String>> calls : CALLS.entrySet()) {
            for (String called : calls.getValue()) {
                yes(calls.getKey() + " calls " + called, CALLS.containsKey(called) || LIBRARY.contains(called)
                        || called.endsWith(".<init>") && !called.startsWith("java."));
            }
        }
    }

    private static void onlyTheseCallThemselves() {
        CHECK.at("rule 8");
        for (String method : CALLS.keySet()) {
            yes(method + " comes to itself", reaches(method, method, new LinkedHashSet<>()) == RECURSIVE.contains(method));
        }
    }

    private static boolean reaches(String from, String to, Set<String> seen) {
        for (String called : CALLS.getOrDefault(from, Set.of())) {
            if (called.equals(to) || seen.add(called) && reaches(called, to, seen)) {
                return true;
            }
        }
        return false;
    }

    /** A method that comes to itself counts once, the library's counts too. */
    private static void noChainIsTooLong() {
        CHECK.at("rule 11");
        for (String method : CALLS.keySet()) {
            if (method.startsWith("SlopeCompiler.")) {
                Set<String> open = new LinkedHashSet<>();
                open.add(method);
                yes(method + " goes at most eight deep", depth(method, open) <= DEEPEST);
            }
        }
    }

    private static int depth(String method, Set<String> open) {
        int deepest = 0;
        for (String called : CALLS.getOrDefault(method, Set.of())) {
            if (open.add(called)) {
                deepest = Math.max(deepest, depth(called, open));
                open.remove(called);
            }
        }
        return deepest + 1;
    }

    private static final class Reader extends TreePathScanner<Void, Void> {
        private final Trees trees;
        private String method = "SlopeCompiler.<fields>";

        Reader(Trees trees) {
            this.trees = trees;
        }

        private static String nameOf(Element e) {
            String owner = e.getEnclosingElement().toString();
            return owner.replace("SlopeCompiler.", "") + "." + e.getSimpleName();
        }

        private void called() {
            CALLS.computeIfAbsent(method, m -> new LinkedHashSet<>()).add(nameOf(trees.getElement(getCurrentPath())));
        }

        @Override
        public Void visitMethod(MethodTree tree, Void none) {
            String outer = method;
            method = nameOf(trees.getElement(getCurrentPath()));
            CALLS.computeIfAbsent(method, m -> new LinkedHashSet<>());
            super.visitMethod(tree, none);
            method = outer;
            return null;
        }

        @Override
        public Void visitMethodInvocation(MethodInvocationTree tree, Void none) {
            called();
            return super.visitMethodInvocation(tree, none);
        }

        @Override
        public Void visitNewClass(NewClassTree tree, Void none) {
            called();
            return super.visitNewClass(tree, none);
        }

        @Override
        public Void visitThrow(ThrowTree tree, Void none) {
            THROWS.add(method);
            return super.visitThrow(tree, none);
        }

        @Override
        public Void visitCatch(CatchTree tree, Void none) {
            catches++;
            return super.visitCatch(tree, none);
        }

        @Override
        public Void visitForLoop(ForLoopTree tree, Void none) {
            endlessLoops += tree.getCondition() == null ? 1 : 0;
            return super.visitForLoop(tree, none);
        }

        @Override
        public Void visitWhileLoop(WhileLoopTree tree, Void none) {
            endlessLoops += tree.getCondition().toString().equals("(true)") ? 1 : 0;
            return super.visitWhileLoop(tree, none);
        }
    }
}
