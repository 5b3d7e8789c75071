/** Promise 10. */
public final class LostTest {
    public static void main(String[] args) {
        Cases cases = new Cases();
        cases.of("Promise 10, lost");
        cases.holds("\"1 if the cell is lost\", each alone", LostTest::lostAlone);
        cases.holds("\"1 if the cell is lost\", all of them", due -> each(due, Pictures.ALL));
        cases.holds("\"0 if not\", none of them", due -> each(due, Pictures.NONE));
        cases.holds("\"0 if not\", each alone among lost ones", LostTest::leftAlone);
        cases.holds("\"0 if not\", after mending", LostTest::mended);
        cases.holds("the same when asked again", LostTest::askingChangesNothing);
        Refusals.ofCells(cases, "\"-1 if row or column is not from 0 to 5\"", 5,
            ProductShelf::lost);
        cases.end();
    }

    private static void lostAlone(Due due) {
        Cells.each((row, column) ->
            each(due, Pictures.cell(row, column)));
    }

    private static void leftAlone(Due due) {
        Cells.each((row, column) -> {
            each(due, Pictures.allBut(row, column));
        });
    }

    private static void each(Due due, String picture) {
        each(due, Shelves.filledWithLost(picture), picture);
    }

    private static void each(Due due, ProductShelf shelf, String picture) {
        Cells.each((row, column) -> {
            int want = Pictures.isLost(picture, row, column) ? 1 : 0;
            due.same("lost" + Shelves.at(row, column) + " of " + picture, shelf.lost(row, column), want);
        });
    }

    private static void mended(Due due) {
        ProductShelf shelf = Shelves.filledWithLost(Pictures.MIXED);
        shelf.mendRow(2);
        each(due, shelf, "#..... .#.... ...... ...... ....#. #....#");
        shelf.mendColumn(0);
        each(due, shelf, "...... .#.... ...... ...... ....#. .....#");
        shelf.mend();
        each(due, shelf, Pictures.NONE);
    }

    private static void askingChangesNothing(Due due) {
        ProductShelf shelf = Shelves.filledWithLost(Pictures.MIXED);
        each(due, shelf, Pictures.MIXED);
        each(due, shelf, Pictures.MIXED);
        Shelves.looksLike(due, "after asking", shelf, Pictures.MIXED);
    }
}
