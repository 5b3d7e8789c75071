/** Shelves that the tests start from, and the look at all of a shelf. */
final class Shelves {
    static final int SIDE = 6;
    static final int DATA_SIDE = 4;

    private Shelves() {
    }

    static boolean isData(int row, int column) {
        return row < DATA_SIDE && column < DATA_SIDE;
    }

    /** Different in each data cell, and never 0. */
    static int valueAt(int row, int column) {
        return 10 + 50 * row + 11 * column;
    }

    static ProductShelf filled() {
        ProductShelf shelf = new ProductShelf();
        fill(shelf);
        return shelf;
    }

    /** A filled shelf of which just the cells marked in the picture are lost. */
    static ProductShelf filledWithLost(String picture) {
        ProductShelf shelf = filled();
        loseMarked(shelf, picture);
        return shelf;
    }

    static void fill(ProductShelf shelf) {
        Cells.eachData((row, column) ->
            shelf.write(row, column, valueAt(row, column)));
    }

    static void loseMarked(ProductShelf shelf, String picture) {
        Cells.each((row, column) -> {
            if (Pictures.isLost(picture, row, column)) {
                shelf.lose(row, column);
            }
        });
    }

    /** Checks every answer that looks without changing, on a shelf filled by filled(). */
    static void looksLike(Due due, String when, ProductShelf shelf, String picture) {
        int total = 0;
        for (int row = 0; row < SIDE; row++) {
            for (int column = 0; column < SIDE; column++) {
                boolean lost = Pictures.isLost(picture, row, column);
                String at = at(row, column);
                int value = isData(row, column) && !lost ? valueAt(row, column) : -1;
                total += value == -1 ? 0 : value;
                due.same(when + ": lost" + at, shelf.lost(row, column), lost ? 1 : 0);
                due.same(when + ": read" + at, shelf.read(row, column), value);
            }
        }
        due.same(when + ": losses()", shelf.losses(), Pictures.marks(picture));
        due.same(when + ": total()", shelf.total(), total);
    }

    static String at(int row, int column) {
        return "(" + row + ", " + column + ")";
    }
}
