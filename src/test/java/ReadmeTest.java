import java.io.IOException;
import java.lang.reflect.Method;
import java.nio.file.Files;
import java.nio.file.Path;
import java.util.List;
import java.util.Set;
import java.util.TreeSet;
import java.util.regex.Matcher;
import java.util.regex.Pattern;
import java.util.stream.Stream;

/** README.md's example: each line's call gives the answer that stands behind it. */
public final class ReadmeTest {
    private static final Pattern EXAMPLE = Pattern.compile(
        "```java\nProductShelf shelf = new ProductShelf\\(\\);\n(.*?)```", Pattern.DOTALL);
    private static final Pattern LINE = Pattern.compile("shelf\\.(\\w+)\\(([-0-9, ]*)\\); +// (-?\\d+)(,.*)?");

    public static void main(String[] args) throws IOException {
        Matcher example = EXAMPLE.matcher(Files.readString(Path.of("README.md")));
        List<String> lines = example.find() ? example.group(1).lines().toList() : List.of();
        Cases cases = new Cases();
        cases.of("README.md");
        cases.holds("the program answers as the example says", due -> answers(due, lines, new ProductShelf()));
        cases.holds("so does the second form of the document", due -> answers(due, lines, new ModelShelf()));
        cases.holds("every method is in the example", due -> everyMethod(due, lines));
        cases.end();
    }

    private static void answers(Due due, List<String> lines, Object shelf) {
        for (String line : lines) {
            Matcher parts = LINE.matcher(line);
            due.same("a call and its answer in: " + line, parts.matches() ? 1 : 0, 1);
            due.same(line, call(shelf, parts.group(1), parts.group(2)), Integer.parseInt(parts.group(3)));
        }
    }

    private static int call(Object shelf, String name, String arguments) {
        Object[] numbers = Stream.of(arguments.split(", ")).filter(text -> !text.isEmpty()).map(Integer::valueOf).toArray();
        try {
            return (int) methodOf(shelf, name).invoke(shelf, numbers);
        } catch (ReflectiveOperationException failed) {
            throw new IllegalStateException(failed);
        }
    }

    private static Method methodOf(Object shelf, String name) {
        return Stream.of(shelf.getClass().getDeclaredMethods())
            .filter(method -> method.getName().equals(name)).findFirst().orElseThrow();
    }

    private static void everyMethod(Due due, List<String> lines) {
        Set<String> called = new TreeSet<>();
        for (String line : lines) {
            Matcher parts = LINE.matcher(line);
            if (parts.matches()) {
                called.add(parts.group(1));
            }
        }
        due.same("methods in the example: " + called, called.size(), 11);
    }
}
