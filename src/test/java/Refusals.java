import java.util.stream.IntStream;

/** Calls with an index that is off: each answers -1 and leaves the shelf as it is. */
final class Refusals {
    private static final int[] BELOW = {
        -1, -2, -3, -4, -5, -6, -7, -8, -36, -256, -65536, Integer.MIN_VALUE, Integer.MIN_VALUE + 1,
        // Times 6 or 4, these wrap around to a place on the shelf.
        -715827882, -(1 << 30)
    };
    private static final int[] ABOVE = {
        6, 7, 8, 11, 12, 16, 35, 36, 256, 65536, Integer.MAX_VALUE, Integer.MAX_VALUE - 1,
        715827883, 1431655766, 1 << 30
    };
    // With all lost, none and some: what is refused must not depend on it.
    private static final String[] SHELVES = {Pictures.NONE, Pictures.MIXED, Pictures.ALL};

    interface CellCall {
        int on(ProductShelf shelf, int row, int column);
    }

    interface LineCall {
        int on(ProductShelf shelf, int line);
    }

    private Refusals() {
    }

    static int[] tooSmall() {
        return BELOW.clone();
    }

    /** Every index above the last right one that is on the shelf, and many off it. */
    static int[] tooLarge(int last) {
        return IntStream.concat(IntStream.rangeClosed(last + 1, 5), IntStream.of(ABOVE)).toArray();
    }

    static void ofRows(Due due, String name, int[] wrongRows, CellCall call) {
        for (int wrong : wrongRows) {
            for (String picture : SHELVES) {
                ProductShelf shelf = Shelves.filledWithLost(picture);
                for (int column = 0; column < Shelves.SIDE; column++) {
                    due.same(name + Shelves.at(wrong, column), call.on(shelf, wrong, column), -1);
                }
                Shelves.looksLike(due, "after " + name + " of row " + wrong, shelf, picture);
            }
        }
    }

    static void ofColumns(Due due, String name, int[] wrongColumns, CellCall call) {
        for (int wrong : wrongColumns) {
            for (String picture : SHELVES) {
                ProductShelf shelf = Shelves.filledWithLost(picture);
                for (int row = 0; row < Shelves.SIDE; row++) {
                    due.same(name + Shelves.at(row, wrong), call.on(shelf, row, wrong), -1);
                }
                Shelves.looksLike(due, "after " + name + " of column " + wrong, shelf, picture);
            }
        }
    }

    static void ofBoth(Due due, String name, int last, CellCall call) {
        int[] wrong = IntStream.concat(IntStream.of(tooSmall()), IntStream.of(tooLarge(last))).toArray();
        for (int row : wrong) {
            ProductShelf shelf = Shelves.filledWithLost(Pictures.MIXED);
            for (int column : wrong) {
                due.same(name + Shelves.at(row, column), call.on(shelf, row, column), -1);
            }
            Shelves.looksLike(due, "after " + name + " of row " + row, shelf, Pictures.MIXED);
        }
    }

    static void ofLines(Due due, String name, int[] wrongLines, LineCall call) {
        for (int wrong : wrongLines) {
            for (String picture : SHELVES) {
                ProductShelf shelf = Shelves.filledWithLost(picture);
                due.same(name + "(" + wrong + ")", call.on(shelf, wrong), -1);
                Shelves.looksLike(due, "after " + name + "(" + wrong + ")", shelf, picture);
            }
        }
    }
}
