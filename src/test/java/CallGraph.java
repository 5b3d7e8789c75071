import com.sun.source.tree.Tree;
import com.sun.source.util.TreePath;
import java.util.HashMap;
import java.util.HashSet;
import java.util.Map;
import java.util.Set;
import javax.lang.model.element.Element;

/** Which method of the program calls which. */
final class CallGraph {
    private final Map<Element, Set<Element>> calls = new HashMap<>();

    CallGraph(ProgramTree program) {
        for (TreePath call : program.all(Tree.Kind.METHOD_INVOCATION)) {
            TreePath method = ProgramTree.methodAround(call);
            if (method != null) {
                calls.computeIfAbsent(program.element(method), any -> new HashSet<>()).add(program.element(call));
            }
        }
    }

    boolean comesBackTo(Element method) {
        Set<Element> reached = new HashSet<>();
        Set<Element> next = from(method);
        while (reached.addAll(next)) {
            next = new HashSet<>();
            for (Element one : reached) {
                next.addAll(from(one));
            }
        }
        return reached.contains(method);
    }

    /** How deep calls go, the one from outside being the first; not looked at beyond the limit. */
    int depth(Element method, int limit) {
        int deepest = 0;
        if (limit > 0) {
            for (Element called : from(method)) {
                deepest = Math.max(deepest, depth(called, limit - 1));
            }
        }
        return deepest + 1;
    }

    private Set<Element> from(Element method) {
        return calls.getOrDefault(method, Set.of());
    }
}
