/** Promises 7 and 8, and CAN BE MENDED: every pattern in every row and every column. */
public final class MendLineTest {
    public static void main(String[] args) {
        Cases cases = new Cases();
        cases.of("Promise 7, mendRow");
        linesAreMended(cases, Line.ROW);
        cases.of("Promise 8, mendColumn, \"Answers as mendRow\"");
        linesAreMended(cases, Line.COLUMN);
        cases.end();
    }

    private static void linesAreMended(Cases cases, Line kind) {
        cases.holds("\"at least one\" is lost: none is, 0", due -> eachPattern(due, kind, 0, 0));
        cases.holds("\"at least one\" is lost: one is, 1", due -> eachPattern(due, kind, 1, 1));
        cases.holds("\"at most two\" are lost: two are, 2", due -> eachPattern(due, kind, 2, 2));
        cases.holds("\"(0 if it can't be mended)\": three are lost", due -> eachPattern(due, kind, 3, 0));
        cases.holds("\"(0 if it can't be mended)\": four are lost", due -> eachPattern(due, kind, 4, 0));
        cases.holds("\"(0 if it can't be mended)\": five are lost", due -> eachPattern(due, kind, 5, 0));
        cases.holds("\"(0 if it can't be mended)\": all six are lost", due -> eachPattern(due, kind, 6, 0));
        cases.holds("\"of its six cells\", lost cells of other lines not counted", due -> amongLost(due, kind));
        cases.holds("\"were lost before and are not after\", so 0 when mended again", due -> mendedAgain(due, kind));
        cases.holds("\"mending it makes them not lost\", with their values", due -> valuesComeBack(due, kind));
        Refusals.ofLines(cases, "\"-1 if " + kind.word + " is not from 0 to 5\"", kind::mend);
    }

    /** Every pattern with so many lost cells, in every line of a shelf with no other lost. */
    private static void eachPattern(Due due, Line kind, int lost, int mended) {
        for (int line = 0; line < Shelves.SIDE; line++) {
            for (int pattern = 0; pattern < Line.PATTERNS; pattern++) {
                if (Integer.bitCount(pattern) == lost) {
                    answers(due, kind, line, pattern, mended, false);
                }
            }
        }
    }

    private static void amongLost(Due due, Line kind) {
        for (int line = 0; line < Shelves.SIDE; line++) {
            for (int pattern = 0; pattern < Line.PATTERNS; pattern++) {
                int lost = Integer.bitCount(pattern);
                answers(due, kind, line, pattern, lost <= 2 ? lost : 0, true);
            }
        }
    }

    private static void answers(Due due, Line kind, int line, int pattern, int mended, boolean othersLost) {
        ProductShelf shelf = Shelves.filledWithLost(kind.pattern(line, pattern, othersLost));
        String call = "mend of line " + line + ", pattern " + pattern + ", others lost: " + othersLost;
        due.same(call, kind.mend(shelf, line), mended);
        int left = mended == 0 ? pattern : 0;
        Shelves.looksLike(due, call, shelf, kind.pattern(line, left, othersLost));
    }

    private static void mendedAgain(Due due, Line kind) {
        for (int line = 0; line < Shelves.SIDE; line++) {
            for (int pattern = 0; pattern < Line.PATTERNS; pattern++) {
                ProductShelf shelf = Shelves.filledWithLost(kind.pattern(line, pattern, false));
                kind.mend(shelf, line);
                due.same("mend again of line " + line + ", pattern " + pattern, kind.mend(shelf, line), 0);
            }
        }
    }

    private static void valuesComeBack(Due due, Line kind) {
        ProductShelf shelf = Shelves.filledWithLost(kind.picture("#.#... ...... ...... ...... ...... ......"));
        shelf.write(0, 0, 203);
        shelf.write(1, 1, 201);
        kind.mend(shelf, 0);
        due.same("read(0, 0)", shelf.read(0, 0), Shelves.valueAt(0, 0));
        due.same("read(0, 2)", shelf.read(0, 2), Shelves.valueAt(0, 2));
        due.same("read(2, 0)", shelf.read(2, 0), Shelves.valueAt(2, 0));
        due.same("read(1, 1)", shelf.read(1, 1), 201);
        due.same("write(0, 0, 204)", shelf.write(0, 0, 204), Shelves.valueAt(0, 0));
        due.same("read(0, 0) after it", shelf.read(0, 0), 204);
    }
}
