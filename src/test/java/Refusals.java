import java.util.function.Consumer;
import java.util.stream.IntStream;

/** Calls with an index that is off: each answers -1 and leaves the shelf as it is. */
final class Refusals {
    private static final int[] BELOW = {
        -1, -2, -3, -4, -5, -6, -7, -8, -36, -256, -65536, Integer.MIN_VALUE, Integer.MIN_VALUE + 1,
        // Times 6 or 4, these wrap around to a place on the shelf.
        -715827882, -(1 << 30)
    };
    private static final int[] ABOVE = {
        6, 7, 8, 11, 12, 16, 35, 36, 256, 65536, Integer.MAX_VALUE, Integer.MAX_VALUE - 1,
        715827883, 1431655766, 1 << 30
    };
    // With none lost, some and all: what is refused must not depend on it.
    private static final String[] SHELVES = {Pictures.NONE, Pictures.MIXED, Pictures.ALL};

    interface CellCall {
        int on(ProductShelf shelf, int row, int column);
    }

    interface LineCall {
        int on(ProductShelf shelf, int line);
    }

    private Refusals() {
    }

    /** The five cases of a call for a cell whose row and column go from 0 to the last. */
    static void ofCells(Cases cases, String words, int last, CellCall call) {
        cases.holds(words + ": row is below 0", due -> ofRows(due, BELOW, call));
        cases.holds(words + ": row is above " + last, due -> ofRows(due, above(last), call));
        cases.holds(words + ": column is below 0", due -> ofColumns(due, BELOW, call));
        cases.holds(words + ": column is above " + last, due -> ofColumns(due, above(last), call));
        cases.holds(words + ": both are wrong", due -> ofBoth(due, last, call));
    }

    /** The two cases of a call for a row or a column, from 0 to 5. */
    static void ofLines(Cases cases, String words, LineCall call) {
        cases.holds(words + ": it is below 0", due -> ofLines(due, BELOW, call));
        cases.holds(words + ": it is above 5", due -> ofLines(due, above(5), call));
    }

    /** Every index on the shelf that is above the last right one, and many off it. */
    private static int[] above(int last) {
        return IntStream.concat(IntStream.rangeClosed(last + 1, 5), IntStream.of(ABOVE)).toArray();
    }

    private static void ofRows(Due due, int[] wrongRows, CellCall call) {
        for (int wrong : wrongRows) {
            unchanged(due, "row " + wrong, shelf -> {
                for (int column = 0; column < Shelves.SIDE; column++) {
                    due.same("the call for " + Shelves.at(wrong, column), call.on(shelf, wrong, column), -1);
                }
            });
        }
    }

    private static void ofColumns(Due due, int[] wrongColumns, CellCall call) {
        for (int wrong : wrongColumns) {
            unchanged(due, "column " + wrong, shelf -> {
                for (int row = 0; row < Shelves.SIDE; row++) {
                    due.same("the call for " + Shelves.at(row, wrong), call.on(shelf, row, wrong), -1);
                }
            });
        }
    }

    private static void ofBoth(Due due, int last, CellCall call) {
        int[] wrong = IntStream.concat(IntStream.of(BELOW), IntStream.of(above(last))).toArray();
        for (int row : wrong) {
            unchanged(due, "row " + row + " and a wrong column", shelf -> {
                for (int column : wrong) {
                    due.same("the call for " + Shelves.at(row, column), call.on(shelf, row, column), -1);
                }
            });
        }
    }

    private static void ofLines(Due due, int[] wrongLines, LineCall call) {
        for (int wrong : wrongLines) {
            unchanged(due, "line " + wrong, shelf ->
                due.same("the call for line " + wrong, call.on(shelf, wrong), -1));
        }
    }

    private static void unchanged(Due due, String what, Consumer<ProductShelf> calls) {
        for (String picture : SHELVES) {
            ProductShelf shelf = Shelves.filledWithLost(picture);
            calls.accept(shelf);
            Shelves.looksLike(due, "after the call for " + what, shelf, picture);
        }
    }
}
