import java.lang.reflect.Member;
import java.lang.reflect.Method;
import java.lang.reflect.Modifier;
import java.util.Arrays;
import java.util.Set;
import java.util.TreeSet;
import java.util.stream.Collectors;
import java.util.stream.Stream;

/** The document's public face, all of it and nothing beside it. */
public final class FaceTest {
    private static final Set<String> FACE = Set.of(
        "public ProductShelf()",
        "public int ProductShelf.write(int,int,int)",
        "public int ProductShelf.read(int,int)",
        "public int ProductShelf.lose(int,int)",
        "public int ProductShelf.loseRow(int)",
        "public int ProductShelf.loseColumn(int)",
        "public int ProductShelf.mendRow(int)",
        "public int ProductShelf.mendColumn(int)",
        "public int ProductShelf.mend()",
        "public int ProductShelf.lost(int,int)",
        "public int ProductShelf.losses()",
        "public int ProductShelf.total()");

    public static void main(String[] args) {
        Set<String> seen = seenFromOutside(ProductShelf.class);
        Cases cases = new Cases();
        cases.of("The public face");
        cases.holds("\"public final class ProductShelf\"", due -> due.same("modifiers",
            ProductShelf.class.getModifiers(), Modifier.PUBLIC | Modifier.FINAL));
        cases.holds("the constructor and the eleven methods", due -> noneLeft(due, "missing", FACE, seen));
        cases.holds("no other member that can be seen from outside", due -> noneLeft(due, "beside", seen, FACE));
        cases.of("LANGUAGE.md, rule 1");
        cases.holds("\"No private method bears the name of a public one\"", FaceTest::names);
        cases.end();
    }

    private static void noneLeft(Due due, String what, Set<String> all, Set<String> without) {
        Set<String> left = new TreeSet<>(all);
        left.removeAll(without);
        due.same(what + ": " + left, left.size(), 0);
    }

    private static void names(Due due) {
        Set<String> names = new TreeSet<>();
        for (Method method : ProductShelf.class.getDeclaredMethods()) {
            if (!Modifier.isPrivate(method.getModifiers())) {
                names.add(method.getName());
            }
        }
        for (Method method : ProductShelf.class.getDeclaredMethods()) {
            boolean shared = Modifier.isPrivate(method.getModifiers()) && names.contains(method.getName());
            due.same("a public one's name for " + method, shared ? 1 : 0, 0);
        }
    }

    private static Set<String> seenFromOutside(Class<?> shelf) {
        return Stream.<Member[]>of(
                shelf.getDeclaredConstructors(), shelf.getDeclaredMethods(), shelf.getDeclaredFields())
            .flatMap(Arrays::stream)
            .filter(member -> !Modifier.isPrivate(member.getModifiers()))
            .map(Member::toString)
            .collect(Collectors.toSet());
    }
}
