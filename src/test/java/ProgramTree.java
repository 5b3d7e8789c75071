import com.sun.source.tree.CompilationUnitTree;
import com.sun.source.tree.ExpressionTree;
import com.sun.source.tree.LineMap;
import com.sun.source.tree.MethodTree;
import com.sun.source.tree.Tree;
import com.sun.source.util.JavacTask;
import com.sun.source.util.SourcePositions;
import com.sun.source.util.TreePath;
import com.sun.source.util.TreePathScanner;
import com.sun.source.util.Trees;
import java.io.IOException;
import java.nio.file.Path;
import java.util.ArrayList;
import java.util.List;
import java.util.Set;
import java.util.function.Predicate;
import javax.lang.model.element.Element;
import javax.lang.model.type.TypeMirror;
import javax.tools.Diagnostic;
import javax.tools.JavaCompiler;
import javax.tools.StandardJavaFileManager;
import javax.tools.ToolProvider;

/** The program as javac reads it: every node of its tree, with names and types settled. */
final class ProgramTree {
    static final Set<Tree.Kind> LOOPS = Set.of(
        Tree.Kind.FOR_LOOP, Tree.Kind.ENHANCED_FOR_LOOP, Tree.Kind.WHILE_LOOP, Tree.Kind.DO_WHILE_LOOP);
    static final Set<Tree.Kind> CONDITIONS = Set.of(
        Tree.Kind.IF, Tree.Kind.SWITCH, Tree.Kind.SWITCH_EXPRESSION, Tree.Kind.CONDITIONAL_EXPRESSION,
        Tree.Kind.CONDITIONAL_AND, Tree.Kind.CONDITIONAL_OR);

    final CompilationUnitTree unit;
    private final Trees trees;
    private final List<TreePath> nodes = new ArrayList<>();

    private ProgramTree(CompilationUnitTree unit, Trees trees) {
        this.unit = unit;
        this.trees = trees;
        new TreePathScanner<Void, Void>() {
            @Override
            public Void scan(Tree tree, Void nothing) {
                if (tree != null && !isAddedByJavac(tree)) {
                    nodes.add(new TreePath(getCurrentPath(), tree));
                    super.scan(tree, nothing);
                }
                return nothing;
            }
        }.scan(new TreePath(unit), null);
    }

    static ProgramTree of(Path file) throws IOException {
        JavaCompiler compiler = ToolProvider.getSystemJavaCompiler();
        try (StandardJavaFileManager files = compiler.getStandardFileManager(null, null, null)) {
            JavacTask task = (JavacTask) compiler.getTask(
                null, files, null, List.of("--release", "17"), null, files.getJavaFileObjects(file));
            CompilationUnitTree unit = task.parse().iterator().next();
            task.analyze();
            return new ProgramTree(unit, Trees.instance(task));
        }
    }

    /** Such as the call of super() in a constructor: it has no end in the text. */
    private boolean isAddedByJavac(Tree tree) {
        return trees.getSourcePositions().getEndPosition(unit, tree) == Diagnostic.NOPOS;
    }

    List<TreePath> all(Tree.Kind... kinds) {
        Set<Tree.Kind> wanted = Set.of(kinds);
        return where(node -> wanted.contains(node.getLeaf().getKind()));
    }

    List<TreePath> each(Tree.Kind kind, Predicate<TreePath> wanted) {
        return where(node -> node.getLeaf().getKind() == kind && wanted.test(node));
    }

    List<TreePath> expressions(Predicate<TypeMirror> wanted) {
        return where(node -> node.getLeaf() instanceof ExpressionTree && wanted.test(type(node)));
    }

    List<TreePath> where(Predicate<TreePath> wanted) {
        return nodes.stream().filter(wanted).toList();
    }

    Element element(TreePath node) {
        return trees.getElement(node);
    }

    Element element(TreePath parent, Tree child) {
        return trees.getElement(new TreePath(parent, child));
    }

    TypeMirror type(TreePath node) {
        return trees.getTypeMirror(node);
    }

    TypeMirror type(TreePath parent, Tree child) {
        return trees.getTypeMirror(new TreePath(parent, child));
    }

    /** The method or constructor that a node stands in, or null for a field's initialiser. */
    static TreePath methodAround(TreePath node) {
        TreePath at = node.getParentPath();
        while (at != null && !(at.getLeaf() instanceof MethodTree)) {
            at = at.getParentPath();
        }
        return at;
    }

    static boolean isConstructor(TreePath node) {
        return node != null && node.getLeaf() instanceof MethodTree method && method.getReturnType() == null;
    }

    static boolean isInConstructor(TreePath node) {
        return isConstructor(methodAround(node));
    }

    static boolean isInside(TreePath node, Set<Tree.Kind> kinds) {
        TreePath at = node.getParentPath();
        while (at != null && !kinds.contains(at.getLeaf().getKind())) {
            at = at.getParentPath();
        }
        return at != null;
    }

    static boolean isWithin(TreePath node, Tree outer) {
        TreePath at = node;
        while (at != null && at.getLeaf() != outer) {
            at = at.getParentPath();
        }
        return at != null;
    }

    int lines(TreePath node) {
        LineMap map = unit.getLineMap();
        SourcePositions positions = trees.getSourcePositions();
        long first = map.getLineNumber(positions.getStartPosition(unit, node.getLeaf()));
        return (int) (map.getLineNumber(positions.getEndPosition(unit, node.getLeaf())) - first + 1);
    }

    String at(TreePath node) {
        long start = trees.getSourcePositions().getStartPosition(unit, node.getLeaf());
        return "line " + unit.getLineMap().getLineNumber(start) + ": " + node.getLeaf();
    }
}
