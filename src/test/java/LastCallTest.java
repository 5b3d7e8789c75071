/** "An object is used for at most 512 calls": each promise on an object's 512th call. */
public final class LastCallTest {
    private static final int LAST = 512;
    private static final int DATA_CELLS = 16;
    // Lines with none, one, two and three lost, and a total() of 1187.
    private static final String PICTURE = "##.... ###... ...... ...#.. ...... #....#";
    private static final int TOTAL = 1187;

    private interface Call {
        int on(ProductShelf shelf);
    }

    private interface TwoCalls {
        void on(ProductShelf shelf);
    }

    /** Calls to make first: on a shelf with no lost cell they lose none for good. */
    private static final TwoCalls[] EARLY = {
        shelf -> { shelf.write(1, 1, 255); shelf.write(3, 3, -1); },
        shelf -> { shelf.lose(4, 4); shelf.mendRow(4); },
        shelf -> { shelf.lose(0, 0); shelf.mendColumn(0); },
        shelf -> { shelf.loseRow(1); shelf.mend(); },
        shelf -> { shelf.loseColumn(3); shelf.mend(); },
        shelf -> { shelf.loseRow(6); shelf.loseColumn(-1); },
    };

    /** Calls to make once the picture is there: they leave it and the values as they are. */
    private static final TwoCalls[] LATE = {
        shelf -> { shelf.write(2, 2, 255); shelf.write(2, 2, Shelves.valueAt(2, 2)); },
        shelf -> { shelf.write(0, 0, 9); shelf.write(-1, 0, 9); },
        shelf -> { shelf.read(2, 2); shelf.read(0, 0); },
        shelf -> { shelf.lose(0, 0); shelf.lose(6, 6); },
        shelf -> { shelf.lose(4, 4); shelf.mendColumn(4); },
        shelf -> { shelf.mendRow(1); shelf.mendColumn(0); },
        shelf -> { shelf.mendRow(-1); shelf.mendColumn(6); },
        shelf -> { shelf.losses(); shelf.total(); },
    };

    public static void main(String[] args) {
        Cases cases = new Cases();
        cases.of("\"at most 512 calls\", the 512th call");
        cases.holds("Promise 1, what a new object has and no call has changed", LastCallTest::stillNew);
        cases.holds("Promise 2, write", LastCallTest::write);
        cases.holds("Promise 3, read", LastCallTest::read);
        cases.holds("Promise 4, lose", LastCallTest::lose);
        cases.holds("Promise 5, loseRow", LastCallTest::loseRow);
        cases.holds("Promise 6, loseColumn", LastCallTest::loseColumn);
        cases.holds("Promise 7, mendRow", LastCallTest::mendRow);
        cases.holds("Promise 8, mendColumn", LastCallTest::mendColumn);
        cases.holds("Promise 9, mend", LastCallTest::mend);
        cases.holds("Promise 10, lost", LastCallTest::lost);
        cases.holds("Promise 11, losses", LastCallTest::losses);
        cases.holds("Promise 12, total", LastCallTest::total);
        cases.end();
    }

    private static void stillNew(Due due) {
        Cells.eachData((row, column) ->
            due.same("read" + Shelves.at(row, column), onlyLookedAt().read(row, column), 0));
        Cells.each((row, column) ->
            due.same("lost" + Shelves.at(row, column), onlyLookedAt().lost(row, column), 0));
        due.same("losses()", onlyLookedAt().losses(), 0);
        due.same("total()", onlyLookedAt().total(), 0);
        due.same("mend()", onlyLookedAt().mend(), 0);
    }

    private static void write(Due due) {
        last(due, "write(2, 2, 300)", shelf -> shelf.write(2, 2, 300), 132);
        last(due, "write(0, 0, 1), lost", shelf -> shelf.write(0, 0, 1), -1);
        last(due, "write(4, 0, 1)", shelf -> shelf.write(4, 0, 1), -1);
        last(due, "write(0, -1, 1)", shelf -> shelf.write(0, -1, 1), -1);
        lastButOne(due, "write(2, 2, 300)", shelf -> shelf.write(2, 2, 300), shelf -> shelf.read(2, 2), 44);
        lastButOne(due, "write(0, 0, 1), lost", shelf -> shelf.write(0, 0, 1), ProductShelf::total, TOTAL);
        lastButOne(due, "write(4, 0, 1)", shelf -> shelf.write(4, 0, 1), ProductShelf::total, TOTAL);
    }

    private static void read(Due due) {
        last(due, "read(2, 2)", shelf -> shelf.read(2, 2), 132);
        last(due, "read(3, 3), lost", shelf -> shelf.read(3, 3), -1);
        last(due, "read(0, 4)", shelf -> shelf.read(0, 4), -1);
        last(due, "read(-1, 0)", shelf -> shelf.read(-1, 0), -1);
    }

    private static void lose(Due due) {
        last(due, "lose(4, 4)", shelf -> shelf.lose(4, 4), 1);
        last(due, "lose(5, 5), lost", shelf -> shelf.lose(5, 5), 0);
        last(due, "lose(6, 0)", shelf -> shelf.lose(6, 0), -1);
        last(due, "lose(0, -1)", shelf -> shelf.lose(0, -1), -1);
        lastButOne(due, "lose(4, 4)", shelf -> shelf.lose(4, 4), shelf -> shelf.lost(4, 4), 1);
        lastButOne(due, "lose(2, 2)", shelf -> shelf.lose(2, 2), shelf -> shelf.read(2, 2), -1);
        lastButOne(due, "lose(6, 0)", shelf -> shelf.lose(6, 0), ProductShelf::losses, 8);
    }

    private static void loseRow(Due due) {
        last(due, "loseRow(2)", shelf -> shelf.loseRow(2), 6);
        last(due, "loseRow(1), three lost", shelf -> shelf.loseRow(1), 3);
        last(due, "loseRow(-1)", shelf -> shelf.loseRow(-1), -1);
        last(due, "loseRow(6)", shelf -> shelf.loseRow(6), -1);
        lastButOne(due, "loseRow(2)", shelf -> shelf.loseRow(2), ProductShelf::losses, 14);
        lastButOne(due, "loseRow(2)", shelf -> shelf.loseRow(2), ProductShelf::total, 681);
    }

    private static void loseColumn(Due due) {
        last(due, "loseColumn(4)", shelf -> shelf.loseColumn(4), 6);
        last(due, "loseColumn(0), three lost", shelf -> shelf.loseColumn(0), 3);
        last(due, "loseColumn(-1)", shelf -> shelf.loseColumn(-1), -1);
        last(due, "loseColumn(6)", shelf -> shelf.loseColumn(6), -1);
        lastButOne(due, "loseColumn(4)", shelf -> shelf.loseColumn(4), ProductShelf::losses, 14);
    }

    private static void mendRow(Due due) {
        last(due, "mendRow(2), none lost", shelf -> shelf.mendRow(2), 0);
        last(due, "mendRow(3), one lost", shelf -> shelf.mendRow(3), 1);
        last(due, "mendRow(0), two lost", shelf -> shelf.mendRow(0), 2);
        last(due, "mendRow(1), three lost", shelf -> shelf.mendRow(1), 0);
        last(due, "mendRow(-1)", shelf -> shelf.mendRow(-1), -1);
        last(due, "mendRow(6)", shelf -> shelf.mendRow(6), -1);
        lastButOne(due, "mendRow(0)", shelf -> shelf.mendRow(0), shelf -> shelf.read(0, 1), 21);
        lastButOne(due, "mendRow(1)", shelf -> shelf.mendRow(1), ProductShelf::losses, 8);
    }

    private static void mendColumn(Due due) {
        last(due, "mendColumn(4), none lost", shelf -> shelf.mendColumn(4), 0);
        last(due, "mendColumn(2), one lost", shelf -> shelf.mendColumn(2), 1);
        last(due, "mendColumn(1), two lost", shelf -> shelf.mendColumn(1), 2);
        last(due, "mendColumn(0), three lost", shelf -> shelf.mendColumn(0), 0);
        last(due, "mendColumn(-1)", shelf -> shelf.mendColumn(-1), -1);
        last(due, "mendColumn(6)", shelf -> shelf.mendColumn(6), -1);
        lastButOne(due, "mendColumn(1)", shelf -> shelf.mendColumn(1), shelf -> shelf.read(1, 1), 71);
        lastButOne(due, "mendColumn(0)", shelf -> shelf.mendColumn(0), ProductShelf::losses, 8);
    }

    private static void mend(Due due) {
        last(due, "mend()", ProductShelf::mend, 8);
        lastButOne(due, "mend()", ProductShelf::mend, ProductShelf::losses, 0);
        lastButOne(due, "mend()", ProductShelf::mend, ProductShelf::total, 1624);
        lastButOne(due, "mend()", ProductShelf::mend, ProductShelf::mend, 0);
    }

    private static void lost(Due due) {
        last(due, "lost(0, 0)", shelf -> shelf.lost(0, 0), 1);
        last(due, "lost(4, 4)", shelf -> shelf.lost(4, 4), 0);
        last(due, "lost(5, 6)", shelf -> shelf.lost(5, 6), -1);
        last(due, "lost(-1, 0)", shelf -> shelf.lost(-1, 0), -1);
    }

    private static void losses(Due due) {
        last(due, "losses()", ProductShelf::losses, 8);
    }

    private static void total(Due due) {
        last(due, "total()", ProductShelf::total, TOTAL);
    }

    private static void last(Due due, String name, Call call, int want) {
        for (int i = 0; i < EARLY.length; i++) {
            due.same(name + " after early calls " + i, call.on(afterEarly(EARLY[i], LAST - 1)), want);
        }
        for (int i = 0; i < LATE.length; i++) {
            due.same(name + " before late calls " + i, call.on(afterLate(LATE[i], LAST - 1)), want);
        }
    }

    private static void lastButOne(Due due, String name, Call change, Call look, int want) {
        for (int i = 0; i < EARLY.length; i++) {
            ProductShelf shelf = afterEarly(EARLY[i], LAST - 2);
            change.on(shelf);
            due.same("look after " + name + " after early calls " + i, look.on(shelf), want);
        }
        for (int i = 0; i < LATE.length; i++) {
            ProductShelf shelf = afterLate(LATE[i], LAST - 2);
            change.on(shelf);
            due.same("look after " + name + " after late calls " + i, look.on(shelf), want);
        }
    }

    /** Used for just so many calls, the last of which make the picture. */
    private static ProductShelf afterEarly(TwoCalls early, int calls) {
        ProductShelf shelf = new ProductShelf();
        use(shelf, early, calls - DATA_CELLS - Pictures.marks(PICTURE));
        Shelves.fill(shelf);
        Shelves.loseMarked(shelf, PICTURE);
        return shelf;
    }

    /** Used for just so many calls, the first of which make the picture. */
    private static ProductShelf afterLate(TwoCalls late, int calls) {
        ProductShelf shelf = Shelves.filledWithLost(PICTURE);
        use(shelf, late, calls - DATA_CELLS - Pictures.marks(PICTURE));
        return shelf;
    }

    private static ProductShelf onlyLookedAt() {
        ProductShelf shelf = new ProductShelf();
        use(shelf, used -> { used.read(0, 0); used.lost(5, 5); }, LAST - 1);
        return shelf;
    }

    private static void use(ProductShelf shelf, TwoCalls pair, int calls) {
        for (int used = 0; used + 2 <= calls; used += 2) {
            pair.on(shelf);
        }
        if (calls % 2 == 1) {
            shelf.losses();
        }
    }
}
