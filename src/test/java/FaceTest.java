import java.lang.reflect.Constructor;
import java.lang.reflect.Executable;
import java.lang.reflect.Field;
import java.lang.reflect.Method;
import java.lang.reflect.Modifier;
import java.util.Arrays;
import java.util.Set;
import java.util.TreeSet;

/** The document's public face, all of it and nothing beside it. */
public final class FaceTest {
    private static final Set<String> FACE = Set.of(
        "public ProductShelf()",
        "public int ProductShelf.write(int,int,int)",
        "public int ProductShelf.read(int,int)",
        "public int ProductShelf.lose(int,int)",
        "public int ProductShelf.loseRow(int)",
        "public int ProductShelf.loseColumn(int)",
        "public int ProductShelf.mendRow(int)",
        "public int ProductShelf.mendColumn(int)",
        "public int ProductShelf.mend()",
        "public int ProductShelf.lost(int,int)",
        "public int ProductShelf.losses()",
        "public int ProductShelf.total()");

    public static void main(String[] args) {
        Cases cases = new Cases();
        cases.of("The public face");
        cases.holds("all of it and nothing beside it", FaceTest::face);
        cases.end();
    }

    private static void face(Due due) {
        Class<?> shelf = ProductShelf.class;
        due.same("public final class", shelf.getModifiers(), Modifier.PUBLIC | Modifier.FINAL);
        due.same("nested classes", shelf.getDeclaredClasses().length, 0);

        Set<String> missing = new TreeSet<>(FACE);
        Set<String> beside = new TreeSet<>();
        for (Constructor<?> constructor : shelf.getDeclaredConstructors()) {
            sort(constructor, missing, beside);
        }
        for (Method method : shelf.getDeclaredMethods()) {
            sort(method, missing, beside);
        }
        for (Field field : shelf.getDeclaredFields()) {
            if (!Modifier.isPrivate(field.getModifiers())) {
                beside.add(field.toString());
            }
        }
        due.same("missing of the face: " + missing, missing.size(), 0);
        due.same("beside the face: " + beside, beside.size(), 0);
        due.same("private methods with a public name", namesUsedTwice(shelf), 0);
    }

    private static void sort(Executable member, Set<String> missing, Set<String> beside) {
        boolean due = missing.remove(member.toString());
        if (!due && !Modifier.isPrivate(member.getModifiers())) {
            beside.add(member.toString());
        }
    }

    private static int namesUsedTwice(Class<?> shelf) {
        Method[] methods = shelf.getDeclaredMethods();
        long names = Arrays.stream(methods).map(Method::getName).distinct().count();
        return methods.length - (int) names;
    }
}
