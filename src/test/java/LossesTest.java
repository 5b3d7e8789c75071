/** Promise 11. */
public final class LossesTest {
    public static void main(String[] args) {
        Cases cases = new Cases();
        cases.of("Promise 11, losses");
        cases.holds("none: 0", due -> due.same("losses()", Shelves.filled().losses(), 0));
        cases.holds("one, each cell alone: 1", LossesTest::oneCell);
        cases.holds("all of them: 36, counted up one by one", LossesTest::upToAll);
        cases.holds("all of them: 36, by rows and by columns", LossesTest::allByLines);
        cases.holds("a cell lost twice is counted once", LossesTest::lostTwice);
        cases.holds("a mended cell is not counted, down to none", LossesTest::downToNone);
        cases.holds("a refused call and a write change nothing in it", LossesTest::notChangedByOthers);
        cases.holds("the same when asked again", LossesTest::askingChangesNothing);
        cases.end();
    }

    private static void oneCell(Due due) {
        Cells.each((row, column) -> {
            ProductShelf shelf = new ProductShelf();
            shelf.lose(row, column);
            due.same("losses() after lose" + Shelves.at(row, column), shelf.losses(), 1);
        });
    }

    private static void upToAll(Due due) {
        ProductShelf shelf = Shelves.filled();
        for (int cell = 0; cell < 36; cell++) {
            shelf.lose(cell % 6, cell / 6);
            due.same("losses() after so many", shelf.losses(), cell + 1);
        }
    }

    private static void allByLines(Due due) {
        for (Line kind : Line.values()) {
            ProductShelf shelf = Shelves.filled();
            for (int line = 0; line < Shelves.SIDE; line++) {
                kind.lose(shelf, line);
                due.same("losses() after so many lines", shelf.losses(), 6 * (line + 1));
            }
        }
    }

    private static void lostTwice(Due due) {
        ProductShelf shelf = Shelves.filled();
        shelf.lose(2, 2);
        shelf.lose(2, 2);
        due.same("losses() after the same cell twice", shelf.losses(), 1);
        shelf.loseRow(2);
        shelf.loseRow(2);
        due.same("losses() after its row twice", shelf.losses(), 6);
        shelf.loseColumn(2);
        shelf.loseColumn(2);
        due.same("losses() after its column twice", shelf.losses(), 11);
    }

    private static void downToNone(Due due) {
        ProductShelf shelf = Shelves.filledWithLost("##.... ...... ...... ...... ....#. ...###");
        due.same("losses()", shelf.losses(), 6);
        shelf.mendRow(5);
        due.same("losses() after a row that can't be mended", shelf.losses(), 6);
        shelf.mendRow(0);
        due.same("losses() after a mended row", shelf.losses(), 4);
        shelf.mendColumn(4);
        due.same("losses() after a mended column", shelf.losses(), 2);
        shelf.mend();
        due.same("losses() after mend", shelf.losses(), 0);
    }

    private static void notChangedByOthers(Due due) {
        for (String picture : new String[] {Pictures.NONE, Pictures.MIXED, Pictures.ALL}) {
            ProductShelf shelf = Shelves.filledWithLost(picture);
            shelf.lose(6, 0);
            shelf.lose(0, -1);
            shelf.loseRow(-1);
            shelf.loseColumn(6);
            shelf.mendRow(6);
            shelf.mendColumn(-1);
            shelf.write(0, 1, 5);
            shelf.write(0, 0, 5);
            shelf.read(4, 4);
            due.same("losses() of " + picture, shelf.losses(), Pictures.marks(picture));
        }
    }

    private static void askingChangesNothing(Due due) {
        ProductShelf shelf = Shelves.filledWithLost(Pictures.MIXED);
        int marks = Pictures.marks(Pictures.MIXED);
        due.same("losses()", shelf.losses(), marks);
        due.same("losses() again", shelf.losses(), marks);
        Shelves.looksLike(due, "after asking", shelf, Pictures.MIXED);
    }
}
