/** Promises 2 and 3. */
public final class WriteReadTest {
    public static void main(String[] args) {
        Due due = new Due();
        eachDataCellHasItsOwnValue(due);
        valueIsCutToEightBits(due);
        spareCellsAreRefused(due);
        indicesOffTheShelfAreRefused(due);
        lostCellsAreRefused(due);
        lostNeighboursDoNotMatter(due);
        due.end();
    }

    private static void eachDataCellHasItsOwnValue(Due due) {
        ProductShelf shelf = Shelves.filled();
        Shelves.looksLike(due, "filled", shelf, Shelves.NONE_LOST);
        for (int row = 0; row < Shelves.DATA_SIDE; row++) {
            for (int column = 0; column < Shelves.DATA_SIDE; column++) {
                String at = "(" + row + ", " + column + ", ..)";
                due.same("write" + at, shelf.write(row, column, 3), Shelves.valueAt(row, column));
                due.same("write again" + at, shelf.write(row, column, 4), 3);
            }
        }
        due.same("total() of sixteen fours", shelf.total(), 64);
    }

    private static void valueIsCutToEightBits(Due due) {
        int[] written = {0, 1, 127, 128, 254, 255, 256, 257, 511, 512, 65535, 65536 + 9,
            -1, -2, -128, -255, -256, -257, Integer.MAX_VALUE, Integer.MIN_VALUE, Integer.MIN_VALUE + 200};
        int[] held = {0, 1, 127, 128, 254, 255, 0, 1, 255, 0, 255, 9,
            255, 254, 128, 1, 0, 255, 255, 0, 200};
        ProductShelf shelf = new ProductShelf();
        int before = 0;
        for (int i = 0; i < written.length; i++) {
            due.same("write(3, 1, " + written[i] + ")", shelf.write(3, 1, written[i]), before);
            due.same("read after write(3, 1, " + written[i] + ")", shelf.read(3, 1), held[i]);
            due.same("total() after write(3, 1, " + written[i] + ")", shelf.total(), held[i]);
            before = held[i];
        }
    }

    private static void spareCellsAreRefused(Due due) {
        ProductShelf shelf = Shelves.filled();
        for (int row = 0; row < Shelves.SIDE; row++) {
            for (int column = 0; column < Shelves.SIDE; column++) {
                if (row >= Shelves.DATA_SIDE || column >= Shelves.DATA_SIDE) {
                    refused(due, shelf, row, column);
                }
            }
        }
        Shelves.looksLike(due, "after spare cells", shelf, Shelves.NONE_LOST);
    }

    private static void indicesOffTheShelfAreRefused(Due due) {
        ProductShelf shelf = Shelves.filled();
        for (int off : Shelves.offTheShelf()) {
            refused(due, shelf, off, off);
            for (int on = 0; on < Shelves.DATA_SIDE; on++) {
                refused(due, shelf, off, on);
                refused(due, shelf, on, off);
            }
        }
        Shelves.looksLike(due, "after indices off the shelf", shelf, Shelves.NONE_LOST);
    }

    private static void lostCellsAreRefused(Due due) {
        for (int row = 0; row < Shelves.DATA_SIDE; row++) {
            for (int column = 0; column < Shelves.DATA_SIDE; column++) {
                ProductShelf shelf = Shelves.filled();
                shelf.lose(row, column);
                refused(due, shelf, row, column);
                due.same("losses() after a refused write", shelf.losses(), 1);
                shelf.mendRow(row);
                Shelves.looksLike(due, "mended after a refused write", shelf, Shelves.NONE_LOST);
            }
        }
    }

    private static void lostNeighboursDoNotMatter(Due due) {
        ProductShelf shelf = Shelves.filledWithLost("###### #.#### ###### ###### ###### ######");
        due.same("write(1, 1, 5)", shelf.write(1, 1, 5), Shelves.valueAt(1, 1));
        due.same("read(1, 1)", shelf.read(1, 1), 5);
        due.same("total()", shelf.total(), 5);
        due.same("losses()", shelf.losses(), 35);
    }

    private static void refused(Due due, ProductShelf shelf, int row, int column) {
        due.same("write(" + row + ", " + column + ", 77)", shelf.write(row, column, 77), -1);
        due.same("read(" + row + ", " + column + ")", shelf.read(row, column), -1);
    }
}
