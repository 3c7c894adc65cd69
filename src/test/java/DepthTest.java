import com.sun.source.tree.MethodInvocationTree;
import com.sun.source.tree.MethodTree;
import com.sun.source.tree.NewClassTree;
import com.sun.source.util.JavacTask;
import com.sun.source.util.TreePathScanner;
import com.sun.source.util.Trees;
import java.io.File;
import java.io.IOException;
import java.util.ArrayList;
import java.util.LinkedHashMap;
import java.util.LinkedHashSet;
import java.util.List;
import java.util.Map;
import java.util.Set;
import javax.lang.model.element.Element;
import javax.lang.model.element.ExecutableElement;
import javax.lang.model.element.TypeElement;
import javax.lang.model.util.Elements;
import javax.tools.JavaCompiler;
import javax.tools.StandardJavaFileManager;
import javax.tools.ToolProvider;

/**
 * LANGUAGE.md 8, 11: how deep calls go and how long methods are, as javac reads the class. A call of a method
 * that is overridden may go to each that overrides it; a method that calls itself counts once.
 */
public final class DepthTest {
    private static final int DEEPEST = 8;
    private static final int LONGEST = 60;
    /** The two that call themselves, with the depth as an argument; any other needs a look at LANGUAGE.md 8. */
    private static final Set<String> THEMSELVES = Set.of("Walks.seekWay", "Walks.meetTunes");

    private static final Checks C = new Checks();

    private final Map<ExecutableElement, Set<ExecutableElement>> calls = new LinkedHashMap<>();
    /** Those of the calls that may go to a method that overrides the one that is named: not super.heard(). */
    private final Map<ExecutableElement, Set<ExecutableElement>> open = new LinkedHashMap<>();
    private Elements elements;

    public static void main(String[] args) throws IOException {
        DepthTest test = new DepthTest();
        test.read(new File(System.getProperty("project.root", "."), "src/main/java/KeyStreets.java"));
        test.addOverriders();
        test.depths();
        C.end("DepthTest");
    }

    private void read(File source) throws IOException {
        JavaCompiler compiler = ToolProvider.getSystemJavaCompiler();
        try (StandardJavaFileManager files = compiler.getStandardFileManager(null, null, null)) {
            JavacTask task = (JavacTask) compiler.getTask(null, files, null, List.of("-proc:none"), null,
                files.getJavaFileObjects(source));
            var units = task.parse();
            task.analyze();
            elements = task.getElements();
            Trees trees = Trees.instance(task);
            for (var unit : units) new Reader(trees).scan(unit, null);
        }
    }

    private final class Reader extends TreePathScanner<Void, Void> {
        private final Trees trees;
        private ExecutableElement inside;

        Reader(Trees trees) {
            this.trees = trees;
        }

        public Void visitMethod(MethodTree method, Void none) {
            ExecutableElement outside = inside;
            inside = (ExecutableElement) trees.getElement(getCurrentPath());
            calls.put(inside, new LinkedHashSet<>());
            open.put(inside, new LinkedHashSet<>());
            long lines = method.toString().lines().count();
            C.due(named(inside) + " has " + lines + " lines: too long", lines > LONGEST ? 1 : 0, 0);
            super.visitMethod(method, none);
            inside = outside;
            return null;
        }

        public Void visitMethodInvocation(MethodInvocationTree call, Void none) {
            note(trees.getElement(getCurrentPath()), !call.getMethodSelect().toString().startsWith("super"));
            return super.visitMethodInvocation(call, none);
        }

        public Void visitNewClass(NewClassTree made, Void none) {
            note(trees.getElement(getCurrentPath()), false);
            return super.visitNewClass(made, none);
        }

        private void note(Element called, boolean toOverriders) {
            if (inside == null || !(called instanceof ExecutableElement e)) return;
            calls.get(inside).add(e);
            if (toOverriders) open.get(inside).add(e);
        }
    }

    private void addOverriders() {
        for (ExecutableElement caller : calls.keySet()) {
            for (ExecutableElement base : open.get(caller)) {
                for (ExecutableElement over : calls.keySet()) {
                    TypeElement type = (TypeElement) over.getEnclosingElement();
                    if (elements.overrides(over, base, type)) calls.get(caller).add(over);
                }
            }
        }
    }

    private void depths() {
        int deepest = 0;
        for (ExecutableElement method : calls.keySet()) {
            List<String> chain = deepest(method, new ArrayList<>());
            deepest = Math.max(deepest, chain.size());
            C.due("calls go too deep: " + chain, chain.size() > DEEPEST ? 1 : 0, 0);
        }
        System.out.println("calls go " + deepest + " deep");
    }

    /** The longest chain of calls from a method, the library's as its end; above holds those that stand open. */
    private List<String> deepest(ExecutableElement method, List<ExecutableElement> above) {
        List<String> longest = List.of();
        above.add(method);
        for (ExecutableElement next : calls.getOrDefault(method, Set.of())) {
            if (above.contains(next)) {
                boolean may = next == method && THEMSELVES.contains(named(next));
                C.due(named(next) + " may call itself", may ? 1 : 0, 1);
                continue;
            }
            List<String> chain = deepest(next, above);
            if (chain.size() > longest.size()) longest = chain;
        }
        above.remove(above.size() - 1);
        List<String> all = new ArrayList<>(List.of(named(method)));
        all.addAll(longest);
        return all;
    }

    private static String named(ExecutableElement method) {
        return method.getEnclosingElement().getSimpleName() + "." + method.getSimpleName();
    }
}
