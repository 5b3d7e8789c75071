/** Promise 4. */
public final class LoseTest {
    public static void main(String[] args) {
        Cases cases = new Cases();
        cases.of("Promise 4, lose");
        cases.holds("\"The cell is lost\", that cell and no other", LoseTest::onlyThatCell);
        cases.holds("\"Answers 1 if it was not lost before\", at the start", LoseTest::notLostBefore);
        cases.holds("\"Answers 1 if it was not lost before\", after it was mended", LoseTest::mendedBefore);
        cases.holds("\"Answers 1 if it was not lost before\", down to the last cell", LoseTest::downToTheLast);
        cases.holds("\"0 if it was\", by lose", LoseTest::lostBefore);
        cases.holds("\"0 if it was\", by loseRow and loseColumn", LoseTest::lostWithItsLineBefore);
        Refusals.ofCells(cases, "\"-1 if row or column is not from 0 to 5\"", 5,
            ProductShelf::lose);
        cases.end();
    }

    private static void onlyThatCell(Due due) {
        Cells.each((row, column) -> {
            ProductShelf shelf = Shelves.filled();
            String call = "lose" + Shelves.at(row, column);
            shelf.lose(row, column);
            Shelves.looksLike(due, call, shelf, Pictures.cell(row, column));
            shelf.lose(row, column);
            Shelves.looksLike(due, call + " again", shelf, Pictures.cell(row, column));
        });
    }

    private static void notLostBefore(Due due) {
        Cells.each((row, column) ->
            due.same("lose" + Shelves.at(row, column), Shelves.filled().lose(row, column), 1));
    }

    private static void mendedBefore(Due due) {
        Cells.each((row, column) -> {
            ProductShelf shelf = Shelves.filled();
            String call = "lose" + Shelves.at(row, column);
            shelf.lose(row, column);
            shelf.mendRow(row);
            due.same(call + " after mendRow", shelf.lose(row, column), 1);
            shelf.mendColumn(column);
            due.same(call + " after mendColumn", shelf.lose(row, column), 1);
            shelf.mend();
            due.same(call + " after mend", shelf.lose(row, column), 1);
        });
    }

    private static void downToTheLast(Due due) {
        ProductShelf shelf = Shelves.filled();
        Cells.each((row, column) ->
            due.same("lose one more" + Shelves.at(row, column), shelf.lose(row, column), 1));
        Shelves.looksLike(due, "all lost one by one", shelf, Pictures.ALL);
    }

    private static void lostBefore(Due due) {
        Cells.each((row, column) -> {
            ProductShelf shelf = Shelves.filled();
            shelf.lose(row, column);
            due.same("lose again" + Shelves.at(row, column), shelf.lose(row, column), 0);
            due.same("lose a third time" + Shelves.at(row, column), shelf.lose(row, column), 0);
        });
    }

    private static void lostWithItsLineBefore(Due due) {
        Cells.each((row, column) -> {
            ProductShelf shelf = Shelves.filled();
            shelf.loseRow(row);
            due.same("lose in a lost row" + Shelves.at(row, column), shelf.lose(row, column), 0);
            shelf = Shelves.filled();
            shelf.loseColumn(column);
            due.same("lose in a lost column" + Shelves.at(row, column), shelf.lose(row, column), 0);
        });
    }
}
