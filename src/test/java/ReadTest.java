/** Promise 3. */
public final class ReadTest {
    private static final Refusals.CellCall READ = (shelf, row, column) -> shelf.read(row, column);

    public static void main(String[] args) {
        Cases cases = new Cases();
        cases.of("Promise 3, read");
        cases.holds("\"The value of the data cell\", of each of the sixteen", ReadTest::eachHasItsOwn);
        cases.holds("\"The value of the data cell\", the least and the greatest", ReadTest::leastAndGreatest);
        cases.holds("\"The value of the data cell\", the same when read again", ReadTest::readingChangesNothing);
        cases.holds("\"-1 if row\" is below 0",
            due -> Refusals.ofRows(due, "read", Refusals.tooSmall(), READ));
        cases.holds("\"-1 if row\" is above 3",
            due -> Refusals.ofRows(due, "read", Refusals.tooLarge(3), READ));
        cases.holds("\"-1 if .. column\" is below 0",
            due -> Refusals.ofColumns(due, "read", Refusals.tooSmall(), READ));
        cases.holds("\"-1 if .. column\" is above 3",
            due -> Refusals.ofColumns(due, "read", Refusals.tooLarge(3), READ));
        cases.holds("\"-1 if row or column\" are both wrong",
            due -> Refusals.ofBoth(due, "read", 3, READ));
        cases.holds("\"-1 if .. the cell is lost\"", ReadTest::lostCellIsRefused);
        cases.holds("\"the cell is lost\", not another one", ReadTest::otherLostCellsDoNotMatter);
        cases.end();
    }

    private static void eachHasItsOwn(Due due) {
        ProductShelf shelf = Shelves.filled();
        for (int row = 0; row < Shelves.DATA_SIDE; row++) {
            for (int column = 0; column < Shelves.DATA_SIDE; column++) {
                int value = Shelves.valueAt(row, column);
                due.same("read" + Shelves.at(row, column), shelf.read(row, column), value);
            }
        }
    }

    private static void leastAndGreatest(Due due) {
        for (int row = 0; row < Shelves.DATA_SIDE; row++) {
            for (int column = 0; column < Shelves.DATA_SIDE; column++) {
                ProductShelf shelf = Shelves.filled();
                shelf.write(row, column, 255);
                due.same("read of 255" + Shelves.at(row, column), shelf.read(row, column), 255);
                shelf.write(row, column, 0);
                due.same("read of 0" + Shelves.at(row, column), shelf.read(row, column), 0);
            }
        }
    }

    private static void readingChangesNothing(Due due) {
        ProductShelf shelf = Shelves.filledWithLost(Pictures.MIXED);
        Shelves.looksLike(due, "read", shelf, Pictures.MIXED);
        Shelves.looksLike(due, "read again", shelf, Pictures.MIXED);
        shelf.mend();
        Shelves.looksLike(due, "mended after reading", shelf, Pictures.NONE);
    }

    private static void lostCellIsRefused(Due due) {
        for (int row = 0; row < Shelves.DATA_SIDE; row++) {
            for (int column = 0; column < Shelves.DATA_SIDE; column++) {
                ProductShelf shelf = Shelves.filled();
                shelf.lose(row, column);
                due.same("read of the lost " + Shelves.at(row, column), shelf.read(row, column), -1);
                shelf.mendRow(row);
                int value = Shelves.valueAt(row, column);
                due.same("read of the mended " + Shelves.at(row, column), shelf.read(row, column), value);
            }
        }
    }

    private static void otherLostCellsDoNotMatter(Due due) {
        for (int row = 0; row < Shelves.DATA_SIDE; row++) {
            for (int column = 0; column < Shelves.DATA_SIDE; column++) {
                String own = Pictures.cell(row, column);
                ProductShelf shelf = Shelves.filledWithLost(Pictures.where((r, c) -> !Pictures.isLost(own, r, c)));
                int value = Shelves.valueAt(row, column);
                due.same("read of the only cell that is left", shelf.read(row, column), value);
            }
        }
    }
}
