/** Promises 7 and 8: every pattern of lost cells in every row and every column. */
public final class MendLineTest {
    private static final int PATTERNS = 64;

    public static void main(String[] args) {
        Due due = new Due();
        for (int line = 0; line < Shelves.SIDE; line++) {
            for (int pattern = 0; pattern < PATTERNS; pattern++) {
                for (char others : new char[] {'.', '#'}) {
                    rowIsMended(due, line, pattern, others);
                    columnIsMended(due, line, pattern, others);
                }
            }
        }
        wrongIndicesAreRefused(due);
        mendedValueIsTheOneBeforeTheLoss(due);
        due.end();
    }

    private static void rowIsMended(Due due, int row, int pattern, char others) {
        ProductShelf shelf = Shelves.filledWithLost(pictureOfRow(row, pattern, others));
        String call = "mendRow(" + row + ") of pattern " + pattern + " among " + others;
        due.same(call, shelf.mendRow(row), mended(pattern));
        Shelves.looksLike(due, call, shelf, pictureOfRow(row, left(pattern), others));
        due.same(call + " again", shelf.mendRow(row), 0);
    }

    private static void columnIsMended(Due due, int column, int pattern, char others) {
        ProductShelf shelf = Shelves.filledWithLost(turned(pictureOfRow(column, pattern, others)));
        String call = "mendColumn(" + column + ") of pattern " + pattern + " among " + others;
        due.same(call, shelf.mendColumn(column), mended(pattern));
        Shelves.looksLike(due, call, shelf, turned(pictureOfRow(column, left(pattern), others)));
        due.same(call + " again", shelf.mendColumn(column), 0);
    }

    private static void wrongIndicesAreRefused(Due due) {
        String picture = "##.... ...... ...... ...... ...... #....#";
        for (int off : Shelves.offTheShelf()) {
            ProductShelf shelf = Shelves.filledWithLost(picture);
            due.same("mendRow(" + off + ")", shelf.mendRow(off), -1);
            due.same("mendColumn(" + off + ")", shelf.mendColumn(off), -1);
            Shelves.looksLike(due, "after mending line " + off, shelf, picture);
        }
    }

    private static void mendedValueIsTheOneBeforeTheLoss(Due due) {
        ProductShelf shelf = Shelves.filledWithLost("#.#... ...... ...... ...... ...... ......");
        shelf.write(0, 1, 201);
        shelf.write(1, 0, 202);
        shelf.write(0, 0, 203);
        due.same("mendRow(0)", shelf.mendRow(0), 2);
        due.same("read(0, 0)", shelf.read(0, 0), Shelves.valueAt(0, 0));
        due.same("read(0, 1)", shelf.read(0, 1), 201);
        due.same("read(0, 2)", shelf.read(0, 2), Shelves.valueAt(0, 2));
        due.same("write(0, 0, 204)", shelf.write(0, 0, 204), Shelves.valueAt(0, 0));
    }

    private static int mended(int pattern) {
        int lost = Integer.bitCount(pattern);
        return lost <= 2 ? lost : 0;
    }

    private static int left(int pattern) {
        return mended(pattern) == 0 ? pattern : 0;
    }

    private static String pictureOfRow(int wanted, int pattern, char others) {
        StringBuilder picture = new StringBuilder();
        for (int row = 0; row < Shelves.SIDE; row++) {
            for (int column = 0; column < Shelves.SIDE; column++) {
                char own = (pattern >> column & 1) == 1 ? '#' : '.';
                picture.append(row == wanted ? own : others);
            }
            picture.append(' ');
        }
        return picture.toString();
    }

    private static String turned(String picture) {
        String[] rows = picture.split(" ");
        StringBuilder turned = new StringBuilder();
        for (int row = 0; row < Shelves.SIDE; row++) {
            for (int column = 0; column < Shelves.SIDE; column++) {
                turned.append(rows[column].charAt(row));
            }
            turned.append(' ');
        }
        return turned.toString();
    }
}
