import java.io.IOException;
import java.lang.reflect.Field;
import java.lang.reflect.Method;
import java.lang.reflect.Modifier;
import java.nio.file.Files;
import java.nio.file.Path;
import java.util.ArrayList;
import java.util.HashMap;
import java.util.List;
import java.util.Map;
import java.util.Set;
import java.util.regex.MatchResult;
import java.util.regex.Pattern;
import java.util.stream.Stream;

/**
 * Those rules of ../shared/LANGUAGE.md that the text of the program shows. Some are held
 * tighter than they are written, where the program needs no more: it has counting loops alone.
 */
public final class LanguageTest {
    private static final Path FOLDER = Path.of("src/main/java");
    private static final Path FILE = FOLDER.resolve("ProductShelf.java");
    private static final Set<String> NOT_CALLS = Set.of("if", "for", "while", "switch", "return");
    private static final Pattern CALL = Pattern.compile("\\b([a-z]\\w*)\\s*\\(");
    private static final Pattern HEAD = Pattern.compile(
        "(?:public|private) (?:static )?(?:\\w+ )?(\\w+)\\(([^)]*)\\) \\{");

    private final String text;
    private final Map<String, String> bodies = new HashMap<>();

    private LanguageTest(String source) {
        text = source.replaceAll("(?s)/\\*.*?\\*/", " ").replaceAll("//[^\n]*", " ");
        for (MatchResult head : all(HEAD, text)) {
            bodies.put(head.group(1), text.substring(head.end(), closing(text, head.end(), '{', '}')));
        }
    }

    public static void main(String[] args) throws IOException {
        LanguageTest test = new LanguageTest(Files.readString(FILE));
        long files = filesOfTheProgram();
        Cases cases = new Cases();
        cases.of("LANGUAGE.md");
        cases.holds("one class in one file, without a package line", due -> {
            due.same("files under src/main", (int) files, 1);
            test.none(due, "\\bpackage\\b");
        });
        cases.holds("rule 1: no nested class, interface, enum or record", test::noNestedClass);
        cases.holds("rule 2: numbers, booleans and one-dimensional arrays of these", test::types);
        cases.holds("rule 3: no class of the Java library", test::noLibrary);
        cases.holds("rule 4: arrays are made in fields' initialisers, and no null", test::arrays);
        cases.holds("rule 5: static fields are constants of int or long", test::staticFields);
        cases.holds("rule 6: none of the words ruled out", due -> test.none(due,
            "\\b(throw|throws|try|catch|finally|synchronized|assert|instanceof)\\b|->|::"));
        cases.holds("rule 8: no recursion, and loops of a counter against a bound", test::endsAlways);
        cases.holds("rule 10: few parameters, short methods, calls not deep nor in arguments", test::sizes);
        cases.end();
    }

    private static long filesOfTheProgram() throws IOException {
        try (Stream<Path> found = Files.walk(FOLDER.getParent())) {
            return found.filter(Files::isRegularFile).count();
        }
    }

    private void noNestedClass(Due due) {
        due.same("classes in the text", all(Pattern.compile("\\bclass\\b"), text).size(), 1);
        none(due, "\\b(interface|enum|record|extends|implements)\\b");
    }

    private void types(Due due) {
        none(due, "\\b(float|double|String|var)\\b|\"");
        none(due, "\\[\\s*\\]\\s*\\[\\s*\\]");
    }

    private void noLibrary(Due due) {
        none(due, "\\bimport\\b|\\b(toString|equals|hashCode|getClass|notify|wait|clone|finalize)\\b");
        for (MatchResult word : all(Pattern.compile("\\b[A-Z]\\w*"), text)) {
            boolean own = word.group().equals("ProductShelf") || word.group().equals(word.group().toUpperCase());
            due.same("a word for a class of the library: " + word.group(), own ? 0 : 1, 0);
        }
    }

    private void arrays(Due due) {
        none(due, "\\bnull\\b");
        int made = all(Pattern.compile("\\bnew\\b"), text).size();
        Pattern field = Pattern.compile("(?m)^    private final \\w+\\[\\] \\w+ = new \\w+\\[[A-Z_0-9]+\\];$");
        due.same("arrays made elsewhere than in a field", made - all(field, text).size(), 0);
    }

    private void staticFields(Due due) {
        none(due, "static\\s*\\{");
        for (Field field : ProductShelf.class.getDeclaredFields()) {
            if (Modifier.isStatic(field.getModifiers())) {
                boolean number = field.getType() == int.class || field.getType() == long.class;
                due.same("constant " + field, number && Modifier.isFinal(field.getModifiers()) ? 1 : 0, 1);
            }
        }
    }

    private void endsAlways(Due due) {
        due.same("methods found", bodies.size(), ProductShelf.class.getDeclaredMethods().length + 1);
        for (String name : bodies.keySet()) {
            due.same(name + " is in a circle of calls", depth(name, bodies.size()) > bodies.size() ? 1 : 0, 0);
        }
        none(due, "\\b(while|do)\\b");
        Pattern counted = Pattern.compile("\\bfor \\(int (\\w+) = 0; \\1 < [A-Z_]+; \\1\\+\\+\\)");
        int loops = all(Pattern.compile("\\bfor\\b"), text).size();
        due.same("loops that do not count up to a constant", loops - all(counted, text).size(), 0);
    }

    private void sizes(Due due) {
        due.same("fields", Math.max(40, ProductShelf.class.getDeclaredFields().length), 40);
        for (Method method : ProductShelf.class.getDeclaredMethods()) {
            due.same("parameters of " + method, Math.max(7, method.getParameterCount()), 7);
        }
        for (Map.Entry<String, String> method : bodies.entrySet()) {
            String name = method.getKey();
            due.same("lines of " + name, Math.max(60, (int) method.getValue().lines().count()), 60);
            due.same("depth of " + name, Math.max(6, depth(name, bodies.size())), 6);
            for (MatchResult call : calls(method.getValue())) {
                int end = closing(method.getValue(), call.end(), '(', ')');
                String arguments = method.getValue().substring(call.end(), end);
                due.same("calls in the arguments of a call in " + name, calls(arguments).size(), 0);
            }
        }
    }

    /** How deep the calls go from a method on; more than the limit if they never end. */
    private int depth(String name, int limit) {
        int deepest = 0;
        if (limit >= 0) {
            for (MatchResult call : calls(bodies.getOrDefault(name, ""))) {
                deepest = Math.max(deepest, depth(call.group(1), limit - 1));
            }
        }
        return deepest + 1;
    }

    private static List<MatchResult> calls(String code) {
        List<MatchResult> calls = new ArrayList<>();
        for (MatchResult call : all(CALL, code)) {
            if (!NOT_CALLS.contains(call.group(1))) {
                calls.add(call);
            }
        }
        return calls;
    }

    private void none(Due due, String pattern) {
        for (MatchResult found : all(Pattern.compile(pattern), text)) {
            due.same("ruled out: " + found.group(), 1, 0);
        }
        due.same("matches of " + pattern, all(Pattern.compile(pattern), text).size(), 0);
    }

    private static List<MatchResult> all(Pattern pattern, String code) {
        return pattern.matcher(code).results().toList();
    }

    private static int closing(String code, int from, char open, char close) {
        int depth = 1;
        for (int i = from; i < code.length(); i++) {
            depth += code.charAt(i) == open ? 1 : code.charAt(i) == close ? -1 : 0;
            if (depth == 0) {
                return i;
            }
        }
        return code.length();
    }
}
