/** Goes through the cells of the shelf, row by row. */
final class Cells {
    interface At {
        void at(int row, int column);
    }

    private Cells() {
    }

    static void each(At look) {
        square(Shelves.SIDE, look);
    }

    static void eachData(At look) {
        square(Shelves.DATA_SIDE, look);
    }

    private static void square(int side, At look) {
        for (int row = 0; row < side; row++) {
            for (int column = 0; column < side; column++) {
                look.at(row, column);
            }
        }
    }
}
