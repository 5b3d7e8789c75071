/** Promise 3. */
public final class ReadTest {
    public static void main(String[] args) {
        Cases cases = new Cases();
        cases.of("Promise 3, read");
        cases.holds("\"The value of the data cell\", of each of the sixteen", ReadTest::eachHasItsOwn);
        cases.holds("\"The value of the data cell\", the least and the greatest", ReadTest::leastAndGreatest);
        cases.holds("\"The value of the data cell\", the same when read again", ReadTest::readingChangesNothing);
        Refusals.ofCells(cases, "\"-1 if row or column is not from 0 to 3\"", 3,
            ProductShelf::read);
        cases.holds("\"-1 if .. the cell is lost\"", ReadTest::lostCellIsRefused);
        cases.holds("\"the cell is lost\", not another one", ReadTest::otherLostCellsDoNotMatter);
        cases.end();
    }

    private static void eachHasItsOwn(Due due) {
        ProductShelf shelf = Shelves.filled();
        Cells.eachData((row, column) -> {
            int value = Shelves.valueAt(row, column);
            due.same("read" + Shelves.at(row, column), shelf.read(row, column), value);
        });
    }

    private static void leastAndGreatest(Due due) {
        Cells.eachData((row, column) -> {
            ProductShelf shelf = Shelves.filled();
            shelf.write(row, column, 255);
            due.same("read of 255" + Shelves.at(row, column), shelf.read(row, column), 255);
            shelf.write(row, column, 0);
            due.same("read of 0" + Shelves.at(row, column), shelf.read(row, column), 0);
        });
    }

    private static void readingChangesNothing(Due due) {
        ProductShelf shelf = Shelves.filledWithLost(Pictures.MIXED);
        Shelves.looksLike(due, "read", shelf, Pictures.MIXED);
        Shelves.looksLike(due, "read again", shelf, Pictures.MIXED);
        shelf.mend();
        Shelves.looksLike(due, "mended after reading", shelf, Pictures.NONE);
    }

    private static void lostCellIsRefused(Due due) {
        Cells.eachData((row, column) -> {
            ProductShelf shelf = Shelves.filled();
            shelf.lose(row, column);
            due.same("read of the lost " + Shelves.at(row, column), shelf.read(row, column), -1);
            shelf.mendRow(row);
            int value = Shelves.valueAt(row, column);
            due.same("read of the mended " + Shelves.at(row, column), shelf.read(row, column), value);
        });
    }

    private static void otherLostCellsDoNotMatter(Due due) {
        Cells.eachData((row, column) -> {
            ProductShelf shelf = Shelves.filledWithLost(Pictures.allBut(row, column));
            int value = Shelves.valueAt(row, column);
            due.same("read of the only cell that is left", shelf.read(row, column), value);
        });
    }
}
