/** Promise 1. */
public final class NewObjectTest {
    public static void main(String[] args) {
        Due due = new Due();
        ProductShelf shelf = new ProductShelf();
        for (int row = 0; row < Shelves.SIDE; row++) {
            for (int column = 0; column < Shelves.SIDE; column++) {
                boolean data = row < Shelves.DATA_SIDE && column < Shelves.DATA_SIDE;
                String at = "(" + row + ", " + column + ")";
                due.same("lost" + at, shelf.lost(row, column), 0);
                due.same("read" + at, shelf.read(row, column), data ? 0 : -1);
            }
        }
        due.same("losses()", shelf.losses(), 0);
        due.same("total()", shelf.total(), 0);
        due.same("mend()", shelf.mend(), 0);
        objectsShareNothing(due);
        due.end();
    }

    private static void objectsShareNothing(Due due) {
        ProductShelf used = Shelves.filled();
        used.loseRow(2);
        ProductShelf fresh = new ProductShelf();
        due.same("second object: losses()", fresh.losses(), 0);
        due.same("second object: total()", fresh.total(), 0);
        fresh.loseColumn(0);
        Shelves.looksLike(due, "first object", used, "...... ...... ###### ...... ...... ......");
    }
}
