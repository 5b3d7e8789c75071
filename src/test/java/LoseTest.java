/** Promises 4, 5 and 6, and promise 10 for the cells that they lose. */
public final class LoseTest {
    public static void main(String[] args) {
        Due due = new Due();
        eachCellIsLostAlone(due);
        everyCellCanBeLost(due);
        wholeRows(due);
        wholeColumns(due);
        onlyCellsNotLostBeforeAreCounted(due);
        indicesOffTheShelfAreRefused(due);
        due.end();
    }

    private static void eachCellIsLostAlone(Due due) {
        for (int row = 0; row < Shelves.SIDE; row++) {
            for (int column = 0; column < Shelves.SIDE; column++) {
                ProductShelf shelf = Shelves.filled();
                String at = "(" + row + ", " + column + ")";
                String picture = pictureOf(row, row, column, column);
                due.same("lose" + at, shelf.lose(row, column), 1);
                Shelves.looksLike(due, "lose" + at, shelf, picture);
                due.same("lose again" + at, shelf.lose(row, column), 0);
                Shelves.looksLike(due, "lose again" + at, shelf, picture);
            }
        }
    }

    private static void everyCellCanBeLost(Due due) {
        ProductShelf shelf = Shelves.filled();
        for (int row = 0; row < Shelves.SIDE; row++) {
            for (int column = 0; column < Shelves.SIDE; column++) {
                due.same("lose one more", shelf.lose(row, column), 1);
                due.same("losses()", shelf.losses(), row * Shelves.SIDE + column + 1);
            }
        }
        Shelves.looksLike(due, "all lost", shelf, pictureOf(0, 5, 0, 5));
    }

    private static void wholeRows(Due due) {
        for (int row = 0; row < Shelves.SIDE; row++) {
            ProductShelf shelf = Shelves.filled();
            String call = "loseRow(" + row + ")";
            due.same(call, shelf.loseRow(row), 6);
            Shelves.looksLike(due, call, shelf, pictureOf(row, row, 0, 5));
            due.same(call + " again", shelf.loseRow(row), 0);
            Shelves.looksLike(due, call + " again", shelf, pictureOf(row, row, 0, 5));
        }
    }

    private static void wholeColumns(Due due) {
        for (int column = 0; column < Shelves.SIDE; column++) {
            ProductShelf shelf = Shelves.filled();
            String call = "loseColumn(" + column + ")";
            due.same(call, shelf.loseColumn(column), 6);
            Shelves.looksLike(due, call, shelf, pictureOf(0, 5, column, column));
            due.same(call + " again", shelf.loseColumn(column), 0);
            Shelves.looksLike(due, call + " again", shelf, pictureOf(0, 5, column, column));
        }
    }

    private static void onlyCellsNotLostBeforeAreCounted(Due due) {
        ProductShelf shelf = Shelves.filledWithLost("...... .#..#. ...... ..#... ...... ......");
        due.same("loseRow(1) with two lost", shelf.loseRow(1), 4);
        due.same("loseColumn(2) with two lost", shelf.loseColumn(2), 4);
        due.same("loseRow(0) with one lost", shelf.loseRow(0), 5);
        due.same("loseColumn(5) with two lost", shelf.loseColumn(5), 4);
        due.same("lose(5, 5)", shelf.lose(5, 5), 0);
        Shelves.looksLike(due, "rows and columns", shelf, "###### ###### ..#..# ..#..# ..#..# ..#..#");
    }

    private static void indicesOffTheShelfAreRefused(Due due) {
        String picture = "...... .#.... ...... ...... ....#. ......";
        for (int off : Shelves.offTheShelf()) {
            ProductShelf shelf = Shelves.filledWithLost(picture);
            due.same("loseRow(" + off + ")", shelf.loseRow(off), -1);
            due.same("loseColumn(" + off + ")", shelf.loseColumn(off), -1);
            refused(due, shelf, off, off);
            for (int on = 0; on < Shelves.SIDE; on++) {
                refused(due, shelf, off, on);
                refused(due, shelf, on, off);
            }
            Shelves.looksLike(due, "after index " + off, shelf, picture);
        }
    }

    private static void refused(Due due, ProductShelf shelf, int row, int column) {
        due.same("lose(" + row + ", " + column + ")", shelf.lose(row, column), -1);
        due.same("lost(" + row + ", " + column + ")", shelf.lost(row, column), -1);
    }

    private static String pictureOf(int firstRow, int lastRow, int firstColumn, int lastColumn) {
        StringBuilder picture = new StringBuilder();
        for (int row = 0; row < Shelves.SIDE; row++) {
            for (int column = 0; column < Shelves.SIDE; column++) {
                boolean lost = row >= firstRow && row <= lastRow && column >= firstColumn && column <= lastColumn;
                picture.append(lost ? '#' : '.');
            }
            picture.append(' ');
        }
        return picture.toString();
    }
}
