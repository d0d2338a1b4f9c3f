import com.sun.source.tree.ClassTree;
import com.sun.source.tree.CompilationUnitTree;
import com.sun.source.tree.MethodInvocationTree;
import com.sun.source.tree.MethodTree;
import com.sun.source.tree.NewClassTree;
import com.sun.source.tree.Tree;
import com.sun.source.util.JavacTask;
import com.sun.source.util.TreePath;
import com.sun.source.util.TreePathScanner;
import com.sun.source.util.Trees;
import java.io.IOException;
import java.nio.file.Path;
import java.util.ArrayList;
import java.util.LinkedHashMap;
import java.util.LinkedHashSet;
import java.util.List;
import java.util.Map;
import java.util.Set;
import java.util.function.BiConsumer;
import javax.lang.model.element.Element;
import javax.lang.model.element.ElementKind;
import javax.lang.model.element.ExecutableElement;
import javax.lang.model.element.Modifier;
import javax.lang.model.element.TypeElement;
import javax.lang.model.util.ElementFilter;
import javax.tools.JavaCompiler;
import javax.tools.StandardJavaFileManager;
import javax.tools.ToolProvider;

/** The program as the compiler reads it: each part of its tree with the names resolved. Run from the project's root. */
final class Source {
    private static final Path PLACE = Path.of("src/main/java/QuandleColorings.java");

    final CompilationUnitTree unit;
    final String text;
    private final Trees trees;
    private final List<TreePath> parts = new ArrayList<>();

    private Source(CompilationUnitTree unit, Trees trees) throws IOException {
        this.unit = unit;
        this.trees = trees;
        text = unit.getSourceFile().getCharContent(false).toString();
        new TreePathScanner<Void, Void>() {
            @Override
            public Void scan(Tree tree, Void nothing) {
                if (tree != null) {
                    parts.add(new TreePath(getCurrentPath(), tree));
                }
                return super.scan(tree, nothing);
            }
        }.scan(new TreePath(unit), null);
    }

    static Source read() throws IOException {
        JavaCompiler compiler = ToolProvider.getSystemJavaCompiler();
        try (StandardJavaFileManager files = compiler.getStandardFileManager(null, null, null)) {
            JavacTask task = (JavacTask) compiler.getTask(null, files, null, List.of("-proc:none"), null, files.getJavaFileObjects(PLACE));
            CompilationUnitTree unit = task.parse().iterator().next();
            task.analyze();
            return new Source(unit, Trees.instance(task));
        }
    }

    /** Does something with each part of a kind. */
    <T extends Tree> void each(Class<T> kind, BiConsumer<T, TreePath> action) {
        for (TreePath part : parts) {
            if (kind.isInstance(part.getLeaf())) {
                action.accept(kind.cast(part.getLeaf()), part);
            }
        }
    }

    Element element(TreePath part) {
        return trees.getElement(part);
    }

    /** A part and the line that it stands in, to be printed. */
    String place(Tree tree) {
        long start = trees.getSourcePositions().getStartPosition(unit, tree);
        return "line " + unit.getLineMap().getLineNumber(Math.max(start, 0)) + ", " + tree.toString().strip().lines().findFirst().orElse("");
    }

    long lines(Tree tree) {
        long start = trees.getSourcePositions().getStartPosition(unit, tree);
        long end = trees.getSourcePositions().getEndPosition(unit, tree);
        return unit.getLineMap().getLineNumber(end) - unit.getLineMap().getLineNumber(start) + 1;
    }

    /** The innermost method around a part; null in a field's initialiser. */
    static MethodTree methodAround(TreePath part) {
        for (TreePath at = part.getParentPath(); at != null; at = at.getParentPath()) {
            if (at.getLeaf() instanceof MethodTree method) {
                return method;
            }
            if (at.getLeaf() instanceof ClassTree) {
                return null;
            }
        }
        return null;
    }

    static boolean isStatic(Element element) {
        return element.getModifiers().contains(Modifier.STATIC);
    }

    boolean isOwn(Element element) {
        Element at = element;
        while (at != null && !at.getSimpleName().contentEquals("QuandleColorings")) {
            at = at.getEnclosingElement();
        }
        return at != null;
    }

    /** What each method and constructor calls, the library's methods too. A field's initialiser belongs to the constructors. */
    Map<Element, Set<Element>> calls() {
        Map<Element, Set<Element>> calls = new LinkedHashMap<>();
        each(MethodInvocationTree.class, (call, part) -> addCall(calls, part));
        each(NewClassTree.class, (call, part) -> addCall(calls, part));
        return calls;
    }

    private void addCall(Map<Element, Set<Element>> calls, TreePath part) {
        for (Element caller : callers(part)) {
            calls.computeIfAbsent(caller, key -> new LinkedHashSet<>()).add(element(part));
        }
    }

    private List<? extends Element> callers(TreePath part) {
        for (TreePath at = part.getParentPath(); at != null; at = at.getParentPath()) {
            if (at.getLeaf() instanceof MethodTree) {
                return List.of(element(at));
            }
            if (at.getLeaf() instanceof ClassTree) {
                return ElementFilter.constructorsIn(((TypeElement) element(at)).getEnclosedElements());
            }
        }
        return List.of();
    }

    /** A method's name with that of its class. */
    static String nameOf(Element element) {
        return element.getEnclosingElement().getSimpleName() + "." + element.getSimpleName();
    }

    static boolean isConstructor(Element element) {
        return element instanceof ExecutableElement && element.getKind() == ElementKind.CONSTRUCTOR;
    }
}
