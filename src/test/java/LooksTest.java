/** Promises 10, 11 and 12. */
public final class LooksTest {
    public static void main(String[] args) {
        Due due = new Due();
        wrongIndicesAreRefused(due);
        lossesAndTotalFollowEachChange(due);
        greatestTotal(due);
        due.end();
    }

    private static void wrongIndicesAreRefused(Due due) {
        for (int off : Shelves.offTheShelf()) {
            ProductShelf shelf = new ProductShelf();
            for (int row = 0; row < Shelves.SIDE; row++) {
                shelf.loseRow(row);
            }
            due.same("lost(" + off + ", " + off + ")", shelf.lost(off, off), -1);
            for (int on = 0; on < Shelves.SIDE; on++) {
                due.same("lost(" + off + ", " + on + ")", shelf.lost(off, on), -1);
                due.same("lost(" + on + ", " + off + ")", shelf.lost(on, off), -1);
            }
        }
    }

    private static void lossesAndTotalFollowEachChange(Due due) {
        ProductShelf shelf = new ProductShelf();
        shelf.write(0, 0, 100);
        shelf.write(3, 3, 30);
        shelf.write(0, 3, 7);
        counts(due, "written", shelf, 0, 137);
        shelf.lose(0, 0);
        counts(due, "a data cell lost", shelf, 1, 37);
        shelf.lose(5, 5);
        counts(due, "a spare cell lost", shelf, 2, 37);
        shelf.lose(0, 0);
        counts(due, "the same cell lost", shelf, 2, 37);
        shelf.loseColumn(3);
        counts(due, "a column lost", shelf, 8, 0);
        shelf.mendRow(0);
        counts(due, "a row mended", shelf, 6, 107);
        shelf.write(0, 0, 1);
        counts(due, "a cell written over", shelf, 6, 8);
        shelf.mend();
        counts(due, "all mended", shelf, 0, 38);
    }

    private static void greatestTotal(Due due) {
        ProductShelf shelf = new ProductShelf();
        for (int row = 0; row < Shelves.DATA_SIDE; row++) {
            for (int column = 0; column < Shelves.DATA_SIDE; column++) {
                shelf.write(row, column, 255);
            }
        }
        counts(due, "all cells at 255", shelf, 0, 16 * 255);
        for (int row = 0; row < Shelves.SIDE; row++) {
            shelf.loseRow(row);
        }
        counts(due, "all cells lost", shelf, 36, 0);
    }

    private static void counts(Due due, String when, ProductShelf shelf, int losses, int total) {
        due.same(when + ": losses()", shelf.losses(), losses);
        due.same(when + ": total()", shelf.total(), total);
        due.same(when + ": losses() again", shelf.losses(), losses);
        due.same(when + ": total() again", shelf.total(), total);
    }
}
