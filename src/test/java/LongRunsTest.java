import java.util.Random;

/** All promises together: runs of 512 calls, each answer held against ModelShelf's. */
public final class LongRunsTest {
    private static final int RUNS = 3000;
    private static final int CALLS = 512;

    private final Due due;
    // A fixed seed: the same calls at every run of the test.
    private final Random random = new Random(20261115);

    private LongRunsTest(Due due) {
        this.due = due;
    }

    public static void main(String[] args) {
        Cases cases = new Cases();
        cases.of("Promises 1 to 12");
        cases.holds("each of an object's 512 calls, in " + RUNS + " runs", LongRunsTest::allRuns);
        cases.end();
    }

    private static void allRuns(Due due) {
        LongRunsTest test = new LongRunsTest(due);
        for (int run = 0; run < RUNS; run++) {
            test.oneRun(run);
        }
    }

    private void oneRun(int run) {
        ProductShelf shelf = new ProductShelf();
        ModelShelf model = new ModelShelf();
        // Runs differ in how much is lost before the next mend.
        int mendOneIn = 2 + run % 40;
        for (int call = 0; call < CALLS; call++) {
            String where = "run " + run + ", call " + call + ": ";
            if (random.nextInt(mendOneIn) == 0) {
                due.same(where + "mend()", shelf.mend(), model.mend());
            } else {
                oneCall(where, shelf, model);
            }
        }
    }

    private void oneCall(String where, ProductShelf shelf, ModelShelf model) {
        int row = index();
        int column = index();
        int value = random.nextInt();
        String at = "(" + row + ", " + column + ")";
        switch (random.nextInt(14)) {
            case 0, 1 -> due.same(where + "write" + at + value,
                shelf.write(row, column, value), model.write(row, column, value));
            case 2, 3 -> due.same(where + "read" + at, shelf.read(row, column), model.read(row, column));
            case 4, 5, 6 -> due.same(where + "lose" + at, shelf.lose(row, column), model.lose(row, column));
            case 7 -> due.same(where + "loseRow" + at, shelf.loseRow(row), model.loseRow(row));
            case 8 -> due.same(where + "loseColumn" + at, shelf.loseColumn(column), model.loseColumn(column));
            case 9 -> due.same(where + "mendRow" + at, shelf.mendRow(row), model.mendRow(row));
            case 10 -> due.same(where + "mendColumn" + at, shelf.mendColumn(column), model.mendColumn(column));
            case 11 -> due.same(where + "lost" + at, shelf.lost(row, column), model.lost(row, column));
            case 12 -> due.same(where + "losses()", shelf.losses(), model.losses());
            default -> due.same(where + "total()", shelf.total(), model.total());
        }
    }

    private int index() {
        int kind = random.nextInt(40);
        if (kind == 0) {
            return random.nextInt();
        }
        return kind < 4 ? random.nextInt(10) - 2 : random.nextInt(6);
    }
}
