/** Promise 12. */
public final class TotalTest {
    private static final int SUM_OF_FILLED = 16 * 10 + 4 * 50 * 6 + 4 * 11 * 6;

    public static void main(String[] args) {
        Cases cases = new Cases();
        cases.of("Promise 12, total");
        cases.holds("none lost, all values 0: 0", due -> due.same("total()", new ProductShelf().total(), 0));
        cases.holds("none lost: the sum of all", due -> due.same("total()", Shelves.filled().total(), SUM_OF_FILLED));
        cases.holds("none lost, all values 255: 4080", TotalTest::greatest);
        cases.holds("one value alone, in each cell", TotalTest::oneValue);
        cases.holds("all lost: 0", due -> due.same("total()", Shelves.filledWithLost(Pictures.ALL).total(), 0));
        cases.holds("all data cells lost, no spare cell: 0", TotalTest::allDataLost);
        cases.holds("all spare cells lost, no data cell: the sum of all", TotalTest::allSpareLost);
        cases.holds("one data cell lost: the sum of the others", TotalTest::oneLost);
        cases.holds("all data cells lost but one: its value", TotalTest::oneLeft);
        cases.holds("a mended cell counts again", TotalTest::mendedCounts);
        cases.holds("a write that is refused does not count", TotalTest::refusedWrites);
        cases.holds("the same when asked again", TotalTest::askingChangesNothing);
        cases.end();
    }

    private static void greatest(Due due) {
        ProductShelf shelf = new ProductShelf();
        for (int cell = 0; cell < 16; cell++) {
            shelf.write(cell / 4, cell % 4, 255);
            due.same("total() of so many 255", shelf.total(), 255 * (cell + 1));
        }
    }

    private static void oneValue(Due due) {
        Cells.eachData((row, column) -> {
            ProductShelf shelf = new ProductShelf();
            shelf.write(row, column, 200);
            due.same("total() after write" + Shelves.at(row, column), shelf.total(), 200);
            shelf.write(row, column, 1);
            due.same("total() after a write over it", shelf.total(), 1);
        });
    }

    private static void allDataLost(Due due) {
        due.same("total()", Shelves.filledWithLost(Pictures.where(Shelves::isData)).total(), 0);
    }

    private static void allSpareLost(Due due) {
        String spare = Pictures.where((row, column) -> !Shelves.isData(row, column));
        due.same("total()", Shelves.filledWithLost(spare).total(), SUM_OF_FILLED);
    }

    private static void oneLost(Due due) {
        Cells.eachData((row, column) -> {
            ProductShelf shelf = Shelves.filledWithLost(Pictures.cell(row, column));
            int others = SUM_OF_FILLED - Shelves.valueAt(row, column);
            due.same("total() without " + Shelves.at(row, column), shelf.total(), others);
        });
    }

    private static void oneLeft(Due due) {
        Cells.eachData((row, column) -> {
            ProductShelf shelf = Shelves.filledWithLost(Pictures.allBut(row, column));
            due.same("total() of " + Shelves.at(row, column), shelf.total(), Shelves.valueAt(row, column));
        });
    }

    private static void mendedCounts(Due due) {
        ProductShelf shelf = Shelves.filledWithLost("##.... .#.... ...... ...#.. ...... ......");
        due.same("total()", shelf.total(), SUM_OF_FILLED - 10 - 21 - 71 - 193);
        shelf.mendRow(0);
        due.same("total() after mendRow(0)", shelf.total(), SUM_OF_FILLED - 71 - 193);
        shelf.mendColumn(1);
        due.same("total() after mendColumn(1)", shelf.total(), SUM_OF_FILLED - 193);
        shelf.mend();
        due.same("total() after mend()", shelf.total(), SUM_OF_FILLED);
    }

    private static void refusedWrites(Due due) {
        ProductShelf shelf = Shelves.filled();
        shelf.write(-1, 0, 255);
        shelf.write(0, -1, 255);
        shelf.write(4, 0, 255);
        shelf.write(0, 4, 255);
        shelf.write(5, 5, 255);
        due.same("total() after writes off the data cells", shelf.total(), SUM_OF_FILLED);
        shelf.lose(1, 1);
        shelf.write(1, 1, 255);
        due.same("total() after a write to a lost cell", shelf.total(), SUM_OF_FILLED - 71);
        shelf.mend();
        due.same("total() after mending it", shelf.total(), SUM_OF_FILLED);
    }

    private static void askingChangesNothing(Due due) {
        ProductShelf shelf = Shelves.filledWithLost(Pictures.MIXED);
        int first = shelf.total();
        due.same("total() again", shelf.total(), first);
        Shelves.looksLike(due, "after asking", shelf, Pictures.MIXED);
        shelf.mend();
        due.same("total() after mend()", shelf.total(), SUM_OF_FILLED);
    }
}
