/** Shelves and indices that several tests start from. */
final class Shelves {
    static final int SIDE = 6;
    static final int DATA_SIDE = 4;

    private static final int[] OFF_THE_SHELF = {
        -1, 6, 7, -6, -36, 36, 256, 65536,
        Integer.MIN_VALUE, Integer.MIN_VALUE + 1, Integer.MAX_VALUE,
        // Times 6 or 4, these wrap around to a small index.
        715827883, 1431655766, -715827882, 1 << 30, -(1 << 30)
    };

    private Shelves() {
    }

    static int[] offTheShelf() {
        return OFF_THE_SHELF.clone();
    }

    /** Different in each data cell, and never 0. */
    static int valueAt(int row, int column) {
        return 10 + 50 * row + 11 * column;
    }

    static ProductShelf filled() {
        ProductShelf shelf = new ProductShelf();
        for (int row = 0; row < DATA_SIDE; row++) {
            for (int column = 0; column < DATA_SIDE; column++) {
                shelf.write(row, column, valueAt(row, column));
            }
        }
        return shelf;
    }

    /** Loses the cells marked '#' in six words of six letters, a word a row. */
    static void loseMarked(ProductShelf shelf, String picture) {
        String[] rows = picture.split(" ");
        for (int row = 0; row < SIDE; row++) {
            for (int column = 0; column < SIDE; column++) {
                if (rows[row].charAt(column) == '#') {
                    shelf.lose(row, column);
                }
            }
        }
    }

    /** A filled shelf of which just the cells marked '#' are lost. */
    static ProductShelf filledWithLost(String picture) {
        ProductShelf shelf = filled();
        loseMarked(shelf, picture);
        return shelf;
    }

    /** Checks every answer that looks without changing, on a shelf filled by filled(). */
    static void looksLike(Due due, String when, ProductShelf shelf, String picture) {
        String[] rows = picture.split(" ");
        int losses = 0;
        int total = 0;
        for (int row = 0; row < SIDE; row++) {
            for (int column = 0; column < SIDE; column++) {
                boolean lost = rows[row].charAt(column) == '#';
                boolean data = row < DATA_SIDE && column < DATA_SIDE;
                String at = "(" + row + ", " + column + ")";
                int value = data && !lost ? valueAt(row, column) : -1;
                losses += lost ? 1 : 0;
                total += value == -1 ? 0 : value;
                due.same(when + ": lost" + at, shelf.lost(row, column), lost ? 1 : 0);
                due.same(when + ": read" + at, shelf.read(row, column), value);
            }
        }
        due.same(when + ": losses()", shelf.losses(), losses);
        due.same(when + ": total()", shelf.total(), total);
    }

    static final String NONE_LOST = "...... ...... ...... ...... ...... ......";
}
