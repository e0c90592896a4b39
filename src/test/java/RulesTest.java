import com.sun.source.tree.ClassTree;
import com.sun.source.tree.CompilationUnitTree;
import com.sun.source.tree.MethodInvocationTree;
import com.sun.source.tree.MethodTree;
import com.sun.source.tree.NewClassTree;
import com.sun.source.tree.Tree;
import com.sun.source.tree.VariableTree;
import com.sun.source.util.JavacTask;
import com.sun.source.util.TreePathScanner;
import com.sun.source.util.Trees;
import java.io.IOException;
import java.nio.file.Path;
import java.util.ArrayDeque;
import java.util.Deque;
import java.util.LinkedHashMap;
import java.util.LinkedHashSet;
import java.util.List;
import java.util.Map;
import java.util.Set;
import javax.lang.model.element.Element;
import javax.lang.model.element.ElementKind;
import javax.lang.model.element.Modifier;
import javax.lang.model.element.TypeElement;
import javax.tools.JavaCompiler;
import javax.tools.StandardJavaFileManager;
import javax.tools.ToolProvider;

/** Of ../shared/LANGUAGE.md the rules 2, 4, 5, 8 and 11 as the compiler's own tree tells them. */
public final class RulesTest extends TreePathScanner<Void, Element> {
    private static final int MOST_LINES = 60, MOST_PARAMETERS = 7, MOST_CALLS = 8, MOST_CLASSES = 12, MOST_FIELDS = 20;
    private static final Set<String> LIBRARY = Set.of("java.util.Arrays.copyOf", "java.util.Arrays.copyOfRange",
        "java.util.Arrays.fill", "java.lang.System.arraycopy", "java.lang.Math.min", "java.lang.Math.max",
        "java.lang.Math.abs", "java.lang.Object.<init>");

    private final Trees trees;
    private final CompilationUnitTree unit;
    private final Map<Element, Set<Element>> calls = new LinkedHashMap<>();
    private int classes = 0;

    private RulesTest(Trees trees, CompilationUnitTree unit) {
        this.trees = trees;
        this.unit = unit;
    }

    public static void main(String[] args) throws IOException {
        JavaCompiler compiler = ToolProvider.getSystemJavaCompiler();
        try (StandardJavaFileManager files = compiler.getStandardFileManager(null, null, null)) {
            JavacTask task = (JavacTask) compiler.getTask(null, files, null, List.of("-proc:none"), null,
                files.getJavaFileObjects(Path.of("src/main/java/LedgerTwice.java")));
            CompilationUnitTree unit = task.parse().iterator().next();
            task.analyze();
            new RulesTest(Trees.instance(task), unit).judge();
        }
        Due.end();
    }

    private void judge() {
        scan(unit, null);
        Due.isTrue("rule 11: " + classes + " classes", classes <= MOST_CLASSES);
        for (Element method : calls.keySet()) {
            if (method.getModifiers().contains(Modifier.PUBLIC)) {
                Deque<Element> deepest = deepest(method, new LinkedHashSet<>());
                Due.isTrue("rule 11: calls eight deep, not " + deepest, deepest.size() <= MOST_CALLS);
            }
        }
        for (Element method : calls.keySet()) {
            boolean itself = reaches(method, method, new LinkedHashSet<>());
            Due.isTrue("rule 8: " + method + " calls itself and is private and static", !itself
                || method.getModifiers().containsAll(Set.of(Modifier.PRIVATE, Modifier.STATIC)));
        }
    }

    /** The longest chain of calls, a library's own call the last of it; what is open already is a recursion. */
    private Deque<Element> deepest(Element method, Set<Element> open) {
        Deque<Element> best = new ArrayDeque<>();
        open.add(method);
        for (Element called : calls.getOrDefault(method, Set.of())) {
            if (!open.contains(called)) {
                Deque<Element> chain = deepest(called, open);
                best = chain.size() > best.size() ? chain : best;
            }
        }
        open.remove(method);
        best.addFirst(method);
        return best;
    }

    private boolean reaches(Element from, Element to, Set<Element> seen) {
        for (Element called : calls.getOrDefault(from, Set.of())) {
            if (called.equals(to) || seen.add(called) && reaches(called, to, seen)) {
                return true;
            }
        }
        return false;
    }

    @Override
    public Void visitClass(ClassTree node, Element method) {
        classes++;
        Element type = trees.getElement(getCurrentPath());
        boolean inside = type.getEnclosingElement().getKind() == ElementKind.CLASS;
        Due.isTrue("rule 2: " + type + " is static", !inside || type.getModifiers().contains(Modifier.STATIC));
        int fields = 0;
        for (Tree member : node.getMembers()) {
            if (member instanceof VariableTree field) {
                boolean constant = field.getModifiers().getFlags().contains(Modifier.STATIC);
                boolean fixed = field.getModifiers().getFlags().contains(Modifier.FINAL);
                Due.isTrue("rule 5: " + field.getName() + " is final, if it is static", !constant || fixed);
                fields += constant ? 0 : 1;
            }
        }
        Due.isTrue("rule 11: " + fields + " fields of " + type, fields <= MOST_FIELDS);
        return super.visitClass(node, method);
    }

    @Override
    public Void visitMethod(MethodTree node, Element outside) {
        Element method = trees.getElement(getCurrentPath());
        calls.putIfAbsent(method, new LinkedHashSet<>());
        Due.isTrue("rule 11: parameters of " + method, node.getParameters().size() <= MOST_PARAMETERS);
        Due.isTrue("rule 11: lines of " + method, lines(node) <= MOST_LINES);
        return super.visitMethod(node, method);
    }

    private long lines(MethodTree node) {
        long start = trees.getSourcePositions().getStartPosition(unit, node);
        long end = trees.getSourcePositions().getEndPosition(unit, node);
        // A constructor that the compiler makes has no end.
        return end < 0 ? 0 : unit.getLineMap().getLineNumber(end) - unit.getLineMap().getLineNumber(start) + 1;
    }

    @Override
    public Void visitMethodInvocation(MethodInvocationTree node, Element method) {
        called(method);
        return super.visitMethodInvocation(node, method);
    }

    @Override
    public Void visitNewClass(NewClassTree node, Element method) {
        Due.isTrue("rule 2: no class without a name", node.getClassBody() == null);
        called(method);
        return super.visitNewClass(node, method);
    }

    private void called(Element method) {
        Element target = trees.getElement(getCurrentPath());
        String owner = ((TypeElement) target.getEnclosingElement()).getQualifiedName().toString();
        boolean own = owner.startsWith("LedgerTwice");
        Due.isTrue("rule 4: " + owner + "." + target, own || LIBRARY.contains(owner + "." + target.getSimpleName()));
        if (method != null) {
            calls.get(method).add(target);
        }
    }
}
