import com.sun.source.tree.ClassTree;
import com.sun.source.tree.CompilationUnitTree;
import com.sun.source.tree.ExpressionTree;
import com.sun.source.tree.IdentifierTree;
import com.sun.source.tree.LineMap;
import com.sun.source.tree.MemberSelectTree;
import com.sun.source.tree.MethodInvocationTree;
import com.sun.source.tree.MethodTree;
import com.sun.source.tree.NewClassTree;
import com.sun.source.tree.Tree;
import com.sun.source.tree.VariableTree;
import com.sun.source.util.JavacTask;
import com.sun.source.util.TreePath;
import com.sun.source.util.TreePathScanner;
import com.sun.source.util.Trees;
import java.io.IOException;
import java.nio.file.Path;
import java.util.HashMap;
import java.util.HashSet;
import java.util.LinkedHashMap;
import java.util.List;
import java.util.Map;
import java.util.Set;
import javax.lang.model.element.Element;
import javax.lang.model.element.ElementKind;
import javax.lang.model.element.Modifier;
import javax.lang.model.element.TypeElement;
import javax.lang.model.type.TypeMirror;
import javax.tools.JavaCompiler;
import javax.tools.StandardJavaFileManager;
import javax.tools.ToolProvider;

/** The tree that javac makes of the class's source, and what its names mean: the ground of LanguageTest. */
final class Source {
    private final CompilationUnitTree unit;
    private final Trees trees;
    private final LineMap lines;
    private final Map<Element, TreePath> methods = new LinkedHashMap<>();
    private final Map<Element, Set<Element>> calls = new HashMap<>();
    private final Map<Element, Integer> depths = new HashMap<>();
    private final Set<Element> open = new HashSet<>();
    private boolean isRecursive = false;

    Source(Path file) throws IOException {
        JavaCompiler javac = ToolProvider.getSystemJavaCompiler();
        try (StandardJavaFileManager files = javac.getStandardFileManager(null, null, null)) {
            JavacTask task = (JavacTask) javac.getTask(null, files, null, List.of("-proc:none"), null,
                files.getJavaFileObjects(file));
            unit = task.parse().iterator().next();
            task.analyze();
            trees = Trees.instance(task);
        }
        lines = unit.getLineMap();
        new Callings().scan(unit, null);
    }

    CompilationUnitTree unit() {
        return unit;
    }

    Map<Element, TreePath> methods() {
        return methods;
    }

    Element element(TreePath path) {
        return trees.getElement(path);
    }

    TypeMirror type(TreePath path) {
        return trees.getTypeMirror(path);
    }

    long line(Tree tree) {
        return lines.getLineNumber(trees.getSourcePositions().getStartPosition(unit, tree));
    }

    long lastLine(Tree tree) {
        return lines.getLineNumber(trees.getSourcePositions().getEndPosition(unit, tree));
    }

    /** Whether what is meant stands in the file itself. */
    boolean isOwn(Element element) {
        return element != null && trees.getPath(element) != null;
    }

    static boolean isStatic(Element element) {
        return element != null && element.getModifiers().contains(Modifier.STATIC);
    }

    /** How many calls stand open at once, at the most, when this one has been made; the library's count, too. */
    int depth(Element method) {
        if (open.contains(method)) {
            isRecursive = true;
            return 0;
        }
        Integer known = depths.get(method);
        if (known != null) {
            return known;
        }
        open.add(method);
        int deepest = 0;
        for (Element called : calls.getOrDefault(method, Set.of())) {
            deepest = Math.max(deepest, depth(called));
        }
        open.remove(method);
        depths.put(method, deepest + 1);
        return deepest + 1;
    }

    boolean isRecursive() {
        return isRecursive;
    }

    /** Which methods call which; what a field begins with is called by the constructor. */
    private final class Callings extends TreePathScanner<Void, Void> {
        @Override
        public Void visitMethod(MethodTree tree, Void nothing) {
            methods.put(element(getCurrentPath()), getCurrentPath());
            return super.visitMethod(tree, nothing);
        }

        @Override
        public Void visitMethodInvocation(MethodInvocationTree tree, Void nothing) {
            ExpressionTree select = tree.getMethodSelect();
            add(element(new TreePath(getCurrentPath(), select)));
            return super.visitMethodInvocation(tree, nothing);
        }

        @Override
        public Void visitNewClass(NewClassTree tree, Void nothing) {
            add(element(getCurrentPath()));
            return super.visitNewClass(tree, nothing);
        }

        private void add(Element called) {
            for (Element from : callers()) {
                calls.computeIfAbsent(from, e -> new HashSet<>()).add(called);
            }
        }

        private List<Element> callers() {
            for (TreePath at = getCurrentPath(); at != null; at = at.getParentPath()) {
                if (at.getLeaf() instanceof MethodTree) {
                    return List.of(element(at));
                }
                if (at.getLeaf() instanceof VariableTree && at.getParentPath().getLeaf() instanceof ClassTree) {
                    return List.copyOf(constructors((TypeElement) element(at.getParentPath())));
                }
            }
            return List.of();
        }

        private Set<Element> constructors(TypeElement owner) {
            Set<Element> found = new HashSet<>();
            for (Element each : owner.getEnclosedElements()) {
                if (each.getKind() == ElementKind.CONSTRUCTOR) {
                    found.add(each);
                }
            }
            return found;
        }
    }

    /** The name that an expression ends with, or is. */
    static String nameOf(Tree tree) {
        if (tree instanceof IdentifierTree) {
            return ((IdentifierTree) tree).getName().toString();
        }
        return tree instanceof MemberSelectTree ? ((MemberSelectTree) tree).getIdentifier().toString() : "";
    }
}
