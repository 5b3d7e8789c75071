/** Promise 2. */
public final class WriteTest {
    public static void main(String[] args) {
        Cases cases = new Cases();
        cases.of("Promise 2, write");
        cases.holds("\"The data cell gets the value\", that cell and no other", WriteTest::onlyThatCell);
        cases.holds("\"value & 255\", from 0 to 255 as it is", WriteTest::inRange);
        cases.holds("\"value & 255\", too large and wrapped around", WriteTest::tooLarge);
        cases.holds("\"value & 255\", too small and wrapped around", WriteTest::tooSmall);
        cases.holds("\"Answers the value before\"", WriteTest::answersTheValueBefore);
        Refusals.ofCells(cases, "\"-1, and changes nothing, if row or column is not from 0 to 3\"", 3,
            (shelf, row, column) -> shelf.write(row, column, 77));
        cases.holds("\"-1 .. if .. the cell is lost\"", WriteTest::lostCellIsRefused);
        cases.holds("\"changes nothing, if .. the cell is lost\"", WriteTest::lostCellIsNotChanged);
        cases.holds("\"the cell is lost\", not another one", WriteTest::otherLostCellsDoNotMatter);
        cases.end();
    }

    private static void onlyThatCell(Due due) {
        Cells.eachData((row, column) -> {
            ProductShelf shelf = Shelves.filled();
            shelf.write(row, column, 251);
            due.same("read" + Shelves.at(row, column), shelf.read(row, column), 251);
            shelf.write(row, column, Shelves.valueAt(row, column));
            Shelves.looksLike(due, "after two writes" + Shelves.at(row, column), shelf, Pictures.NONE);
        });
    }

    private static void inRange(Due due) {
        for (int value = 0; value <= 255; value++) {
            holdsAfterWrite(due, value, value);
        }
    }

    private static void tooLarge(Due due) {
        holdsAfterWrite(due, 256, 0);
        holdsAfterWrite(due, 257, 1);
        holdsAfterWrite(due, 384, 128);
        holdsAfterWrite(due, 511, 255);
        holdsAfterWrite(due, 512, 0);
        holdsAfterWrite(due, 65535, 255);
        holdsAfterWrite(due, 65536, 0);
        holdsAfterWrite(due, 65536 + 9, 9);
        holdsAfterWrite(due, Integer.MAX_VALUE - 255, 0);
        holdsAfterWrite(due, Integer.MAX_VALUE, 255);
    }

    private static void tooSmall(Due due) {
        holdsAfterWrite(due, -1, 255);
        holdsAfterWrite(due, -2, 254);
        holdsAfterWrite(due, -127, 129);
        holdsAfterWrite(due, -128, 128);
        holdsAfterWrite(due, -255, 1);
        holdsAfterWrite(due, -256, 0);
        holdsAfterWrite(due, -257, 255);
        holdsAfterWrite(due, -65536, 0);
        holdsAfterWrite(due, Integer.MIN_VALUE, 0);
        holdsAfterWrite(due, Integer.MIN_VALUE + 200, 200);
    }

    private static void holdsAfterWrite(Due due, int written, int held) {
        ProductShelf shelf = new ProductShelf();
        shelf.write(3, 1, 90);
        due.same("write(3, 1, " + written + ")", shelf.write(3, 1, written), 90);
        due.same("read(3, 1) after a write of " + written, shelf.read(3, 1), held);
        due.same("total() after a write of " + written, shelf.total(), held);
        due.same("write(3, 1, 0) after a write of " + written, shelf.write(3, 1, 0), held);
    }

    private static void answersTheValueBefore(Due due) {
        Cells.eachData((row, column) -> {
            ProductShelf shelf = new ProductShelf();
            String call = "write" + Shelves.at(row, column);
            due.same(call + ", the first", shelf.write(row, column, 255), 0);
            due.same(call + ", the second", shelf.write(row, column, 3), 255);
            due.same(call + ", the same value", shelf.write(row, column, 3), 3);
            due.same(call + ", 0", shelf.write(row, column, 0), 3);
            due.same(call + ", after 0", shelf.write(row, column, 1), 0);
        });
    }

    private static void lostCellIsRefused(Due due) {
        Cells.eachData((row, column) -> {
            ProductShelf shelf = Shelves.filledWithLost(Pictures.cell(row, column));
            due.same("write to the lost " + Shelves.at(row, column), shelf.write(row, column, 77), -1);
            shelf.mendRow(row);
            int value = Shelves.valueAt(row, column);
            due.same("write to the mended " + Shelves.at(row, column), shelf.write(row, column, 77), value);
        });
    }

    private static void lostCellIsNotChanged(Due due) {
        Cells.eachData((row, column) -> {
            String picture = Pictures.cell(row, column);
            ProductShelf shelf = Shelves.filledWithLost(picture);
            shelf.write(row, column, 77);
            Shelves.looksLike(due, "after a write to a lost cell", shelf, picture);
            shelf.mendColumn(column);
            Shelves.looksLike(due, "mended after a write to a lost cell", shelf, Pictures.NONE);
        });
    }

    private static void otherLostCellsDoNotMatter(Due due) {
        Cells.eachData((row, column) -> {
            ProductShelf shelf = Shelves.filledWithLost(Pictures.allBut(row, column));
            int value = Shelves.valueAt(row, column);
            due.same("write to the only cell that is left", shelf.write(row, column, 5), value);
            due.same("read of the only cell that is left", shelf.read(row, column), 5);
        });
    }
}
