/** The boundaries that stand under "Terms". Those of CAN BE MENDED are in MendLineTest. */
public final class TermsTest {
    private interface Way {
        void on(ProductShelf shelf, int row, int column);
    }

    private static final Way[] LOSING = {
        (shelf, row, column) -> shelf.lose(row, column),
        (shelf, row, column) -> shelf.loseRow(row),
        (shelf, row, column) -> shelf.loseColumn(column),
    };

    public static void main(String[] args) {
        Cases cases = new Cases();
        cases.of("Terms");
        cases.holds("\"THE SHELF has rows 0 to 5 and columns 0 to 5\"", TermsTest::theShelf);
        cases.holds("\"The cells in rows 0 to 3 and columns 0 to 3 are the DATA cells\"", TermsTest::dataCells);
        cases.holds("\"each has a VALUE from 0 to 255\"", TermsTest::values);
        cases.holds("\"A cell is LOST or not\"", TermsTest::lostOrNot);
        cases.holds("\"A data cell keeps its value while it is lost\"", TermsTest::keepsItsValue);
        cases.holds("\"keeps its value while it is lost\", whatever is written meanwhile",
            TermsTest::keepsItOverRefusedWrites);
        cases.holds("\"but can't be read then\"", TermsTest::cantBeRead);
        cases.end();
    }

    private static void theShelf(Due due) {
        for (int row = -1; row <= 6; row++) {
            for (int column = -1; column <= 6; column++) {
                boolean on = row >= 0 && row <= 5 && column >= 0 && column <= 5;
                due.same("lost" + Shelves.at(row, column), new ProductShelf().lost(row, column), on ? 0 : -1);
                due.same("lose" + Shelves.at(row, column), new ProductShelf().lose(row, column), on ? 1 : -1);
            }
        }
    }

    private static void dataCells(Due due) {
        for (int row = -1; row <= 6; row++) {
            for (int column = -1; column <= 6; column++) {
                boolean data = row >= 0 && row <= 3 && column >= 0 && column <= 3;
                ProductShelf shelf = new ProductShelf();
                due.same("write" + Shelves.at(row, column), shelf.write(row, column, 9), data ? 0 : -1);
                due.same("read" + Shelves.at(row, column), shelf.read(row, column), data ? 9 : -1);
                due.same("total() after write" + Shelves.at(row, column), shelf.total(), data ? 9 : 0);
            }
        }
    }

    private static void values(Due due) {
        for (int value = 0; value <= 255; value++) {
            for (int row = 0; row < Shelves.DATA_SIDE; row++) {
                ProductShelf shelf = new ProductShelf();
                int column = value % Shelves.DATA_SIDE;
                shelf.write(row, column, value);
                due.same("read of a written " + value, shelf.read(row, column), value);
            }
        }
    }

    private static void lostOrNot(Due due) {
        Cells.each((row, column) -> {
            ProductShelf shelf = new ProductShelf();
            String at = Shelves.at(row, column);
            due.same("lost" + at + " at the start", shelf.lost(row, column), 0);
            shelf.lose(row, column);
            due.same("lost" + at + " after lose", shelf.lost(row, column), 1);
            shelf.lose(row, column);
            due.same("lost" + at + " after lose again", shelf.lost(row, column), 1);
            shelf.mend();
            due.same("lost" + at + " after mend", shelf.lost(row, column), 0);
        });
    }

    private static void keepsItsValue(Due due) {
        Way[] mending = {
            (shelf, row, column) -> shelf.mend(),
            TermsTest::mendByRows,
            TermsTest::mendByColumns,
        };
        for (Way lose : LOSING) {
            for (Way mend : mending) {
                Cells.eachData((row, column) -> {
                    ProductShelf shelf = Shelves.filled();
                    lose.on(shelf, row, column);
                    mend.on(shelf, row, column);
                    Shelves.looksLike(due, "lost and mended " + Shelves.at(row, column), shelf, Pictures.NONE);
                });
            }
        }
    }

    /** A line that is lost whole comes back through the lines across it, the rest by its own. */
    private static void mendByRows(ProductShelf shelf, int row, int column) {
        for (int line = 0; line < Shelves.SIDE; line++) {
            shelf.mendRow(line);
        }
        for (int line = 0; line < Shelves.SIDE; line++) {
            shelf.mendColumn(line);
        }
    }

    private static void mendByColumns(ProductShelf shelf, int row, int column) {
        for (int line = 0; line < Shelves.SIDE; line++) {
            shelf.mendColumn(line);
        }
        for (int line = 0; line < Shelves.SIDE; line++) {
            shelf.mendRow(line);
        }
    }

    private static void keepsItOverRefusedWrites(Due due) {
        int[] held = {0, 1, 128, 255};
        for (int value : held) {
            for (Way lose : LOSING) {
                ProductShelf shelf = new ProductShelf();
                shelf.write(3, 0, value);
                lose.on(shelf, 3, 0);
                due.same("write to a lost cell", shelf.write(3, 0, value + 1), -1);
                due.same("write to a lost cell again", shelf.write(3, 0, 255 - value), -1);
                shelf.mend();
                due.same("read of the mended cell", shelf.read(3, 0), value);
                due.same("write to the mended cell", shelf.write(3, 0, 77), value);
                due.same("read of what was written then", shelf.read(3, 0), 77);
            }
        }
    }

    private static void cantBeRead(Due due) {
        for (Way lose : LOSING) {
            Cells.eachData((row, column) -> {
                ProductShelf shelf = Shelves.filled();
                lose.on(shelf, row, column);
                due.same("read of the lost " + Shelves.at(row, column), shelf.read(row, column), -1);
            });
        }
    }
}
