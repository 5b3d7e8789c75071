import com.sun.source.tree.ArrayTypeTree;
import com.sun.source.tree.AssignmentTree;
import com.sun.source.tree.BinaryTree;
import com.sun.source.tree.BlockTree;
import com.sun.source.tree.CompoundAssignmentTree;
import com.sun.source.tree.ExpressionTree;
import com.sun.source.tree.LiteralTree;
import com.sun.source.tree.MethodInvocationTree;
import com.sun.source.tree.MethodTree;
import com.sun.source.tree.NewArrayTree;
import com.sun.source.tree.Tree;
import com.sun.source.tree.TypeCastTree;
import com.sun.source.tree.UnaryTree;
import com.sun.source.util.TreePath;
import java.io.IOException;
import java.nio.file.Files;
import java.nio.file.Path;
import java.util.HashSet;
import java.util.List;
import java.util.Set;
import java.util.stream.Stream;
import javax.lang.model.element.Element;
import javax.lang.model.element.ElementKind;
import javax.lang.model.element.Modifier;
import javax.lang.model.element.VariableElement;
import javax.lang.model.type.ArrayType;
import javax.lang.model.type.TypeKind;
import javax.lang.model.type.TypeMirror;

/**
 * The rules of ../shared/LANGUAGE.md, as far as the program's text shows them and each by its
 * own words: what they allow is not refused here. The face of rule 1 is in FaceTest.
 */
public final class LanguageTest {
    private static final Path FOLDER = Path.of("src/main/java");
    private static final Path FILE = FOLDER.resolve("ProductShelf.java");
    private static final Set<TypeKind> NUMBERS = Set.of(
        TypeKind.INT, TypeKind.LONG, TypeKind.SHORT, TypeKind.BYTE, TypeKind.CHAR, TypeKind.BOOLEAN);
    private static final Tree.Kind[] CLASSES = {
        Tree.Kind.CLASS, Tree.Kind.INTERFACE, Tree.Kind.ENUM, Tree.Kind.RECORD, Tree.Kind.ANNOTATION_TYPE};
    private static final Tree.Kind[] RULED_OUT = {
        Tree.Kind.THROW, Tree.Kind.TRY, Tree.Kind.CATCH, Tree.Kind.SYNCHRONIZED, Tree.Kind.ASSERT,
        Tree.Kind.INSTANCE_OF, Tree.Kind.LAMBDA_EXPRESSION, Tree.Kind.MEMBER_REFERENCE};
    private static final int MOST_PARAMETERS = 7;
    private static final int MOST_LINES = 60;
    private static final int DEEPEST = 6;
    private static final int MOST_FIELDS = 40;

    private final ProgramTree program;
    private final CallGraph calls;

    private LanguageTest(ProgramTree program) {
        this.program = program;
        calls = new CallGraph(program);
    }

    public static void main(String[] args) throws IOException {
        LanguageTest test = new LanguageTest(ProgramTree.of(FILE));
        int files = filesOfTheProgram();
        Cases cases = new Cases();
        cases.of("LANGUAGE.md");
        cases.holds("\"one class in one file\", \"without a package line\"", due -> test.oneFile(due, files));
        cases.of("LANGUAGE.md, rule 1");
        cases.holds("\"No nested class, interface, enum or record\"", test::oneClass);
        cases.of("LANGUAGE.md, rule 2");
        cases.holds("whole numbers, booleans and \"one-dimensional arrays of these\"", test::types);
        cases.of("LANGUAGE.md, rule 3");
        cases.holds("\"No class of the Java library\"", test::noLibrary);
        cases.of("LANGUAGE.md, rule 4");
        cases.holds("\"in a field's initialiser or in the constructor\"", test::arraysAreMadeAtTheStart);
        cases.holds("\"each once, not in a loop and not behind a condition\"", test::arraysAreMadeOnce);
        cases.holds("\"a length, 1 or more, that is a literal or a constant\"", test::lengths);
        cases.holds("\"never answered by a method, never compared\"", test::arraysStayInside);
        cases.holds("\"no method assigns to an array field\", no local array changes in a loop", test::arraysStay);
        cases.holds("\"The constructor makes all arrays before it calls\"", test::constructor);
        cases.of("LANGUAGE.md, rule 5");
        cases.holds("\"compile-time constants of int or long alone\"", test::staticFields);
        cases.of("LANGUAGE.md, rule 6");
        cases.holds("no word that is ruled out", test::ruledOut);
        cases.of("LANGUAGE.md, rule 8");
        cases.holds("\"No recursion, neither direct nor through other methods\"", test::noRecursion);
        cases.holds("\"(a counter against a bound)\"", test::loopsCount);
        cases.of("LANGUAGE.md, rule 10");
        cases.holds("\"at most seven parameters\"", test::parameters);
        cases.holds("\"no call stands inside the arguments of another call\"", test::arguments);
        cases.holds("\"Methods stay short\", \"calls go at most six deep\", \"some forty fields\"", test::sizes);
        cases.end();
    }

    private static int filesOfTheProgram() throws IOException {
        try (Stream<Path> found = Files.walk(FOLDER.getParent())) {
            return (int) found.filter(Files::isRegularFile).count();
        }
    }

    private void oneFile(Due due, int files) {
        due.same("files under src/main", files, 1);
        due.same("package lines", program.unit.getPackage() == null ? 0 : 1, 0);
    }

    private void oneClass(Due due) {
        due.same("classes", program.all(CLASSES).size(), 1);
    }

    private void types(Due due) {
        none(due, "types", program.each(Tree.Kind.PRIMITIVE_TYPE, type ->
            program.type(type).getKind() != TypeKind.VOID && !isNumberOrArray(program.type(type))));
        none(due, "variables", program.each(Tree.Kind.VARIABLE, variable ->
            !isNumberOrArray(program.type(variable))));
        none(due, "fractions", program.expressions(type ->
            type.getKind() == TypeKind.FLOAT || type.getKind() == TypeKind.DOUBLE));
    }

    private void noLibrary(Due due) {
        due.same("imports", program.unit.getImports().size(), 0);
        none(due, "other classes", program.expressions(type ->
            type.getKind() == TypeKind.DECLARED && !type.toString().equals("ProductShelf")));
        none(due, "calls of other classes", program.each(Tree.Kind.METHOD_INVOCATION, call ->
            !program.element(call).getEnclosingElement().toString().equals("ProductShelf")));
    }

    private void arraysAreMadeAtTheStart(Due due) {
        none(due, "arrays made later", program.each(Tree.Kind.NEW_ARRAY, array ->
            ProgramTree.methodAround(array) != null && !ProgramTree.isInConstructor(array)));
        none(due, "objects made", program.all(Tree.Kind.NEW_CLASS));
    }

    private void arraysAreMadeOnce(Due due) {
        Set<Element> made = new HashSet<>();
        none(due, "arrays made again", program.each(Tree.Kind.NEW_ARRAY, array -> !made.add(namedBy(array))));
        none(due, "arrays made in a loop", program.each(Tree.Kind.NEW_ARRAY, array ->
            ProgramTree.isInside(array, ProgramTree.LOOPS)));
        none(due, "arrays made behind a condition", program.each(Tree.Kind.NEW_ARRAY, array ->
            ProgramTree.isInside(array, ProgramTree.CONDITIONS)));
    }

    private void lengths(Due due) {
        none(due, "lengths", program.each(Tree.Kind.NEW_ARRAY, array -> lengthOf(array) < 1));
    }

    private void arraysStayInside(Due due) {
        none(due, "answers", program.each(Tree.Kind.METHOD, method ->
            ((MethodTree) method.getLeaf()).getReturnType() instanceof ArrayTypeTree));
        none(due, "comparisons", program.each(Tree.Kind.EQUAL_TO, this::comparesArrays));
        none(due, "comparisons", program.each(Tree.Kind.NOT_EQUAL_TO, this::comparesArrays));
        none(due, "null", program.all(Tree.Kind.NULL_LITERAL));
    }

    private void arraysStay(Due due) {
        none(due, "assignments", program.each(Tree.Kind.ASSIGNMENT, this::changesAnArray));
    }

    private void constructor(Due due) {
        List<TreePath> nodes = program.where(ProgramTree::isInConstructor);
        List<TreePath> called = nodes.stream().filter(this::callsOnTheObject).toList();
        none(due, "arrays made after a call", nodes.stream().filter(node ->
            node.getLeaf() instanceof NewArrayTree && !called.isEmpty()
                && nodes.indexOf(called.get(0)) < nodes.indexOf(node)).toList());
        none(due, "calls with an array", called.stream().filter(call ->
            ((MethodInvocationTree) call.getLeaf()).getArguments().stream().anyMatch(argument ->
                isArray(call, argument))).toList());
    }

    private void staticFields(Due due) {
        none(due, "static initialisers", program.each(Tree.Kind.BLOCK, block ->
            ((BlockTree) block.getLeaf()).isStatic()));
        none(due, "static fields", program.each(Tree.Kind.VARIABLE, variable ->
            isStatic(program.element(variable)) && !isConstant((VariableElement) program.element(variable))));
    }

    private void ruledOut(Due due) {
        none(due, "statements", program.all(RULED_OUT));
        none(due, "synchronized methods", program.each(Tree.Kind.METHOD, method ->
            program.element(method).getModifiers().contains(Modifier.SYNCHRONIZED)));
        none(due, "casts", program.each(Tree.Kind.TYPE_CAST, cast ->
            !NUMBERS.contains(program.type(cast, ((TypeCastTree) cast.getLeaf()).getType()).getKind())));
    }

    private void noRecursion(Due due) {
        none(due, "methods that come back to themselves", program.each(Tree.Kind.METHOD, method ->
            calls.comesBackTo(program.element(method))));
    }

    /** That a counter does come to its bound is more than this can see. */
    private void loopsCount(Due due) {
        none(due, "loops without a counter", program.where(loop ->
            ProgramTree.LOOPS.contains(loop.getLeaf().getKind())
                && loop.getLeaf().getKind() != Tree.Kind.ENHANCED_FOR_LOOP
                && countersOf(loop.getLeaf()).isEmpty()));
    }

    private void parameters(Due due) {
        none(due, "methods with more", program.each(Tree.Kind.METHOD, method ->
            ((MethodTree) method.getLeaf()).getParameters().size() > MOST_PARAMETERS));
    }

    private void arguments(Due due) {
        List<? extends Tree> arguments = program.all(Tree.Kind.METHOD_INVOCATION).stream()
            .flatMap(call -> ((MethodInvocationTree) call.getLeaf()).getArguments().stream()).toList();
        none(due, "calls in arguments", program.each(Tree.Kind.METHOD_INVOCATION, call ->
            arguments.stream().anyMatch(argument -> ProgramTree.isWithin(call, argument))));
    }

    private void sizes(Due due) {
        none(due, "long methods", program.each(Tree.Kind.METHOD, method -> program.lines(method) > MOST_LINES));
        none(due, "deep calls", program.each(Tree.Kind.METHOD, method ->
            calls.depth(program.element(method), DEEPEST) > DEEPEST));
        int fields = program.each(Tree.Kind.VARIABLE, variable ->
            isField(program.element(variable)) && !isStatic(program.element(variable))).size();
        due.same("fields beyond some forty", Math.max(fields - MOST_FIELDS, 0), 0);
    }

    private void none(Due due, String what, List<TreePath> found) {
        due.same(what + " " + found.stream().map(program::at).toList(), found.size(), 0);
    }

    private static boolean isNumberOrArray(TypeMirror type) {
        return NUMBERS.contains(type instanceof ArrayType array ? array.getComponentType().getKind() : type.getKind());
    }

    private boolean isArray(TreePath parent, Tree child) {
        return program.type(parent, child).getKind() == TypeKind.ARRAY;
    }

    private static boolean isField(Element element) {
        return element != null && element.getKind() == ElementKind.FIELD;
    }

    private static boolean isStatic(Element element) {
        return element.getModifiers().contains(Modifier.STATIC);
    }

    private static boolean isConstant(VariableElement field) {
        TypeKind kind = field.asType().getKind();
        return field.getConstantValue() != null && (kind == TypeKind.INT || kind == TypeKind.LONG);
    }

    private boolean callsOnTheObject(TreePath node) {
        return node.getLeaf() instanceof MethodInvocationTree && !isStatic(program.element(node));
    }

    private boolean comparesArrays(TreePath comparison) {
        BinaryTree sides = (BinaryTree) comparison.getLeaf();
        return isArray(comparison, sides.getLeftOperand()) || isArray(comparison, sides.getRightOperand());
    }

    private boolean changesAnArray(TreePath assignment) {
        ExpressionTree target = ((AssignmentTree) assignment.getLeaf()).getVariable();
        boolean allowed = isField(program.element(assignment, target))
            ? ProgramTree.isInConstructor(assignment) : !ProgramTree.isInside(assignment, ProgramTree.LOOPS);
        return isArray(assignment, target) && !allowed;
    }

    /** 0 if it is neither a literal nor the name of a constant. */
    private int lengthOf(TreePath array) {
        List<? extends ExpressionTree> lengths = ((NewArrayTree) array.getLeaf()).getDimensions();
        Object length = lengths.size() == 1 ? constantValue(array, lengths.get(0)) : 0;
        return length instanceof Integer number ? number : 0;
    }

    private Object constantValue(TreePath parent, ExpressionTree expression) {
        if (expression instanceof LiteralTree literal) {
            return literal.getValue();
        }
        return program.element(parent, expression) instanceof VariableElement named ? named.getConstantValue() : null;
    }

    /** The variable that a new array is put into. */
    private Element namedBy(TreePath array) {
        TreePath parent = array.getParentPath();
        return parent.getLeaf() instanceof AssignmentTree assignment
            ? program.element(parent, assignment.getVariable()) : program.element(parent);
    }

    /** The variables that a loop's own lines both change and compare. */
    private Set<Element> countersOf(Tree loop) {
        Set<Element> changed = new HashSet<>();
        Set<Element> compared = new HashSet<>();
        for (TreePath node : program.where(inside -> ProgramTree.isWithin(inside, loop))) {
            if (node.getLeaf() instanceof AssignmentTree assignment) {
                changed.add(program.element(node, assignment.getVariable()));
            } else if (node.getLeaf() instanceof CompoundAssignmentTree assignment) {
                changed.add(program.element(node, assignment.getVariable()));
            } else if (node.getLeaf() instanceof UnaryTree step) {
                changed.add(program.element(node, step.getExpression()));
            } else if (node.getLeaf() instanceof BinaryTree sides && isComparison(sides)) {
                compared.add(program.element(node, sides.getLeftOperand()));
                compared.add(program.element(node, sides.getRightOperand()));
            }
        }
        changed.retainAll(compared);
        changed.remove(null);
        return changed;
    }

    private static boolean isComparison(BinaryTree sides) {
        return switch (sides.getKind()) {
            case LESS_THAN, LESS_THAN_EQUAL, GREATER_THAN, GREATER_THAN_EQUAL, EQUAL_TO, NOT_EQUAL_TO -> true;
            default -> false;
        };
    }
}
