import java.util.function.Consumer;

/** Runs the cases of one test, each under the document's words that it is for. */
final class Cases {
    private String part = "";
    private int broken = 0;

    /** The part of the document that the next cases are for. */
    void of(String heading) {
        part = heading;
    }

    void holds(String words, Consumer<Due> check) {
        Due due = new Due();
        try {
            check.accept(due);
        } catch (RuntimeException thrown) {
            due.same("a call that threw " + thrown, 1, 0);
        }
        if (!due.isMet()) {
            broken++;
        }
        System.out.println((due.isMet() ? "holds: " : "BROKEN: ") + part + ": " + words);
    }

    void end() {
        if (broken != 0) {
            System.out.println(broken + " cases are broken");
            System.exit(1);
        }
    }
}
