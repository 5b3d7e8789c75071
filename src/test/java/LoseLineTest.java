/** Promises 5 and 6: the same cases for every row and for every column. */
public final class LoseLineTest {
    public static void main(String[] args) {
        Cases cases = new Cases();
        cases.of("Promise 5, loseRow");
        linesAreLost(cases, Line.ROW);
        cases.of("Promise 6, loseColumn");
        linesAreLost(cases, Line.COLUMN);
        cases.end();
    }

    private static void linesAreLost(Cases cases, Line kind) {
        cases.holds("\"All cells .. are lost\", those and no others", due -> onlyThatLine(due, kind));
        cases.holds("\"how many of them were not lost before\", none being lost: 6", due -> noneBefore(due, kind));
        cases.holds("\"how many of them were not lost before\", some being lost: 1 to 5", due -> someBefore(due, kind));
        cases.holds("\"how many of them were not lost before\", all being lost: 0", due -> allBefore(due, kind));
        cases.holds("\"how many of them\", cells of other lines not counted", due -> othersBefore(due, kind));
        Refusals.ofLines(cases, "\"-1 if " + kind.word + " is not from 0 to 5\"", kind::lose);
    }

    private static void onlyThatLine(Due due, Line kind) {
        for (int line = 0; line < Shelves.SIDE; line++) {
            for (int pattern = 0; pattern < Line.PATTERNS; pattern++) {
                ProductShelf shelf = Shelves.filledWithLost(kind.pattern(line, pattern, false));
                kind.lose(shelf, line);
                String after = kind.pattern(line, Line.WHOLE, false);
                Shelves.looksLike(due, "line " + line + " lost, pattern " + pattern, shelf, after);
            }
        }
    }

    private static void noneBefore(Due due, Line kind) {
        for (int line = 0; line < Shelves.SIDE; line++) {
            answers(due, kind, line, 0, false);
            due.same("lose of line " + line + " of a new object", kind.lose(new ProductShelf(), line), 6);
        }
    }

    private static void someBefore(Due due, Line kind) {
        for (int line = 0; line < Shelves.SIDE; line++) {
            for (int pattern = 1; pattern < Line.WHOLE; pattern++) {
                answers(due, kind, line, pattern, false);
            }
        }
    }

    private static void allBefore(Due due, Line kind) {
        for (int line = 0; line < Shelves.SIDE; line++) {
            answers(due, kind, line, Line.WHOLE, false);
            ProductShelf shelf = Shelves.filled();
            kind.lose(shelf, line);
            due.same("lose of line " + line + " again", kind.lose(shelf, line), 0);
        }
    }

    private static void othersBefore(Due due, Line kind) {
        for (int line = 0; line < Shelves.SIDE; line++) {
            for (int pattern = 0; pattern < Line.PATTERNS; pattern++) {
                answers(due, kind, line, pattern, true);
            }
        }
    }

    private static void answers(Due due, Line kind, int line, int pattern, boolean othersLost) {
        ProductShelf shelf = Shelves.filledWithLost(kind.pattern(line, pattern, othersLost));
        String call = "lose of line " + line + ", pattern " + pattern + ", others lost: " + othersLost;
        due.same(call, kind.lose(shelf, line), 6 - Integer.bitCount(pattern));
    }
}
