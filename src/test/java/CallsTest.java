import com.sun.source.tree.CompilationUnitTree;
import com.sun.source.tree.MethodInvocationTree;
import com.sun.source.tree.MethodTree;
import com.sun.source.tree.NewClassTree;
import com.sun.source.util.JavacTask;
import com.sun.source.util.TreePath;
import com.sun.source.util.TreePathScanner;
import com.sun.source.util.Trees;
import java.io.IOException;
import java.nio.file.Path;
import java.util.ArrayDeque;
import java.util.Deque;
import java.util.List;
import java.util.Map;
import java.util.Set;
import java.util.TreeMap;
import java.util.TreeSet;
import javax.lang.model.element.Element;
import javax.lang.model.element.Modifier;
import javax.lang.model.element.TypeElement;
import javax.tools.JavaCompiler;
import javax.tools.StandardJavaFileManager;
import javax.tools.ToolProvider;

/**
 * Who calls whom in the class, as the compiler sees it: LANGUAGE.md's rule 4 (the library), rule 8 (what may call
 * itself) and rule 11 (how deep calls go that are no recursion).
 */
public final class CallsTest {
    private static final int DEEPEST = 8;
    private static final Path SOURCE = Path.of("src/main/java/WayMayor.java");
    private static final Set<String> LIBRARY = Set.of("String.length", "String.charAt", "String.indexOf",
            "System.arraycopy", "Arrays.fill", "Math.max", "Math.min");
    /** Each of these carries its depth as an argument. */
    private static final Set<String> RECURSIVE =
            Set.of("Outlook.play", "RuleReader.test", "RuleReader.fact", "RuleReader.innerFact");
    private static final Check CHECK = new Check("CallsTest");

    private final Map<String, Set<String>> calls = new TreeMap<>();
    private final Set<String> face = new TreeSet<>();
    private final Set<String> library = new TreeSet<>();

    private CallsTest() {
    }

    public static void main(String[] args) throws IOException {
        CallsTest test = new CallsTest();
        test.read();
        test.keepsToTheLibrary();
        test.callsItselfOnlyByDepth();
        test.staysFlat();
        CHECK.close();
    }

    private void read() throws IOException {
        JavaCompiler compiler = ToolProvider.getSystemJavaCompiler();
        try (StandardJavaFileManager files = compiler.getStandardFileManager(null, null, null)) {
            JavacTask task = (JavacTask) compiler.getTask(null, files, null, List.of("-proc:none"), null,
                    files.getJavaFileObjects(SOURCE));
            Iterable<? extends CompilationUnitTree> units = task.parse();
            task.analyze();
            for (CompilationUnitTree unit : units) {
                new Reader(Trees.instance(task)).scan(unit, null);
            }
        }
    }

    private static String name(Element method) {
        return method.getEnclosingElement().getSimpleName() + "." + method.getSimpleName();
    }

    private static boolean isOwn(Element method) {
        TypeElement outermost = (TypeElement) method.getEnclosingElement();
        while (outermost.getEnclosingElement() instanceof TypeElement outer) {
            outermost = outer;
        }
        return outermost.getQualifiedName().contentEquals("WayMayor");
    }

    private final class Reader extends TreePathScanner<Void, Void> {
        private final Trees trees;
        private final Deque<String> within = new ArrayDeque<>();

        Reader(Trees trees) {
            this.trees = trees;
        }

        @Override
        public Void visitMethod(MethodTree tree, Void none) {
            Element method = trees.getElement(getCurrentPath());
            String own = name(method);
            calls.computeIfAbsent(own, k -> new TreeSet<>());
            if (method.getModifiers().contains(Modifier.PUBLIC)) {
                face.add(own);
            }
            within.push(own);
            super.visitMethod(tree, none);
            within.pop();
            return null;
        }

        @Override
        public Void visitMethodInvocation(MethodInvocationTree tree, Void none) {
            meet(trees.getElement(new TreePath(getCurrentPath(), tree.getMethodSelect())));
            return super.visitMethodInvocation(tree, none);
        }

        @Override
        public Void visitNewClass(NewClassTree tree, Void none) {
            meet(trees.getElement(getCurrentPath()));
            return super.visitNewClass(tree, none);
        }

        private void meet(Element called) {
            if (called.getSimpleName().contentEquals("<init>") && name(called).startsWith("Object.")) {
                return;
            }
            if (!isOwn(called)) {
                library.add(name(called));
            } else if (!within.isEmpty()) {
                calls.get(within.peek()).add(name(called));
            }
        }
    }

    private void keepsToTheLibrary() {
        CHECK.due("of the face, with the constructor", face.size(), 35);
        for (String call : library) {
            CHECK.holds("rule 4 lists " + call, LIBRARY.contains(call));
        }
    }

    private void callsItselfOnlyByDepth() {
        Set<String> found = new TreeSet<>();
        for (String method : calls.keySet()) {
            if (reaches(method, method, new TreeSet<>())) {
                found.add(method);
            }
        }
        CHECK.holds("recursive " + found, found.equals(new TreeSet<>(RECURSIVE)));
    }

    private boolean reaches(String from, String to, Set<String> seen) {
        for (String next : calls.getOrDefault(from, Set.of())) {
            if (next.equals(to) || seen.add(next) && reaches(next, to, seen)) {
                return true;
            }
        }
        return false;
    }

    private void staysFlat() {
        for (String method : face) {
            Deque<String> deepest = deepest(method, new ArrayDeque<>());
            CHECK.holds("at most eight deep: " + deepest, deepest.size() <= DEEPEST);
        }
    }

    /** The longest chain of calls from that one on in which none comes twice. */
    private Deque<String> deepest(String method, Deque<String> above) {
        Deque<String> longest = new ArrayDeque<>();
        above.addLast(method);
        for (String next : calls.getOrDefault(method, Set.of())) {
            if (!above.contains(next)) {
                Deque<String> chain = deepest(next, above);
                longest = chain.size() > longest.size() ? chain : longest;
            }
        }
        above.removeLast();
        Deque<String> whole = new ArrayDeque<>(longest);
        whole.addFirst(method);
        return whole;
    }
}
