/** Promise 1. */
public final class NewObjectTest {
    public static void main(String[] args) {
        Cases cases = new Cases();
        cases.of("Promise 1, A new object");
        cases.holds("\"All values are 0\", as read", NewObjectTest::eachIsReadAsZero);
        cases.holds("\"All values are 0\", as the value before the first write",
            NewObjectTest::eachIsZeroBeforeTheFirstWrite);
        cases.holds("\"All values are 0\", in sum", due -> due.same("total()", new ProductShelf().total(), 0));
        cases.holds("\"no cell is lost\", cell by cell", NewObjectTest::noneIsLost);
        cases.holds("\"no cell is lost\", in number", due -> due.same("losses()", new ProductShelf().losses(), 0));
        cases.holds("\"no cell is lost\", so nothing can be mended", NewObjectTest::nothingCanBeMended);
        cases.holds("a new object stays new whatever other objects do", NewObjectTest::objectsShareNothing);
        cases.end();
    }

    private static void eachIsReadAsZero(Due due) {
        Cells.eachData((row, column) ->
            due.same("read" + Shelves.at(row, column), new ProductShelf().read(row, column), 0));
    }

    private static void eachIsZeroBeforeTheFirstWrite(Due due) {
        Cells.eachData((row, column) ->
            due.same("write" + Shelves.at(row, column), new ProductShelf().write(row, column, 200), 0));
    }

    private static void noneIsLost(Due due) {
        Cells.each((row, column) -> {
            due.same("lost" + Shelves.at(row, column), new ProductShelf().lost(row, column), 0);
            due.same("lose" + Shelves.at(row, column), new ProductShelf().lose(row, column), 1);
        });
    }

    private static void nothingCanBeMended(Due due) {
        due.same("mend()", new ProductShelf().mend(), 0);
        for (int line = 0; line < Shelves.SIDE; line++) {
            due.same("mendRow(" + line + ")", new ProductShelf().mendRow(line), 0);
            due.same("mendColumn(" + line + ")", new ProductShelf().mendColumn(line), 0);
        }
    }

    private static void objectsShareNothing(Due due) {
        ProductShelf early = new ProductShelf();
        ProductShelf used = Shelves.filled();
        used.loseRow(2);
        ProductShelf late = new ProductShelf();
        due.same("object made before: losses()", early.losses(), 0);
        due.same("object made before: total()", early.total(), 0);
        due.same("object made after: losses()", late.losses(), 0);
        due.same("object made after: total()", late.total(), 0);
        late.loseColumn(0);
        Shelves.looksLike(due, "the used object", used, "...... ...... ###### ...... ...... ......");
    }
}
