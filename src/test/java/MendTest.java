import java.util.ArrayList;
import java.util.List;
import java.util.Random;

/** Promise 9. */
public final class MendTest {
    private static final String THREE_BY_THREE = ".#.#.# ...... .#.#.# ...... ...... .#.#.#";

    /** Found by search: no picture is known that takes longer. */
    private static final String[] LONGEST = {
        // Seven rounds of row 0, column 0, row 1, column 1 and so on.
        "#.##.# ###..# ##...# .####. ...### ....#.",
        // Four rounds of all rows and then all columns.
        "#.#.## ..#.## ##...# #.#... .###.. #####.",
        // Eleven lines, if always the first one that can be mended is.
        "#.##.. .#.##. .##.## .##... #####. #.#..#",
    };
    private static final int ORDERS = 720;

    public static void main(String[] args) {
        Cases cases = new Cases();
        cases.of("Promise 9, mend");
        cases.holds("nothing is lost: 0, and nothing changes", due -> isLeft(due, Pictures.NONE, Pictures.NONE));
        cases.holds("one cell is lost: 1", MendTest::oneCell);
        cases.holds("one line or two of a kind are lost whole: all come back", MendTest::oneOrTwoLines);
        cases.holds("two rows and two columns are lost whole: all twenty cells come back", MendTest::twoAndTwo);
        cases.holds("all is lost: 0, and all stays lost", due -> isLeft(due, Pictures.ALL, Pictures.ALL));
        cases.holds("all but one cell is lost: 0", MendTest::allButOne);
        cases.holds("three lines of a kind are lost whole: 0", MendTest::threeLines);
        cases.holds("three rows by three columns are lost: 0", MendTest::threeByThree);
        cases.holds("three by three but one cell are lost: all come back", MendTest::threeByThreeButOne);
        cases.holds("three lost in each row and in each column: 0", MendTest::threeInEachLine);
        cases.holds("\"Mends rows and columns\", neither of them alone", MendTest::neitherAlone);
        cases.holds("\"until no row and no column can be mended any more\", one line opening the next",
            MendTest::oneAfterAnother);
        cases.holds("\"until no row and no column can be mended any more\", the longest ways known",
            MendTest::longestWays);
        cases.holds("\"until no row and no column can be mended any more\", a part staying lost", MendTest::onlyAPart);
        cases.holds("\"until no row and no column can be mended any more\", so none is mended after it",
            MendTest::noneIsMendedAfter);
        cases.holds("\"Whatever the order, the same cells are lost in the end\"", MendTest::anyOrder);
        cases.holds("\"how many cells were lost before and are not after\"", MendTest::answersTheDifference);
        cases.holds("the values of the mended cells come back", MendTest::valuesComeBack);
        cases.end();
    }

    private static void oneCell(Due due) {
        Cells.each((row, column) ->
            isLeft(due, Pictures.cell(row, column), Pictures.NONE));
    }

    private static void oneOrTwoLines(Due due) {
        for (Line kind : Line.values()) {
            for (int lines = 1; lines < Line.PATTERNS; lines++) {
                if (Integer.bitCount(lines) <= 2) {
                    isLeft(due, kind.picture(wholeRows(lines)), Pictures.NONE);
                }
            }
        }
    }

    private static void twoAndTwo(Due due) {
        for (int rows = 0; rows < Line.PATTERNS; rows++) {
            for (int columns = 0; columns < Line.PATTERNS; columns++) {
                if (Integer.bitCount(rows) == 2 && Integer.bitCount(columns) == 2) {
                    int r = rows;
                    int c = columns;
                    isLeft(due, Pictures.where((row, column) -> has(r, row) || has(c, column)), Pictures.NONE);
                }
            }
        }
    }

    private static void allButOne(Due due) {
        Cells.each((row, column) -> {
            String left = Pictures.allBut(row, column);
            isLeft(due, left, left);
        });
    }

    private static void threeLines(Due due) {
        for (Line kind : Line.values()) {
            for (int lines = 0; lines < Line.PATTERNS; lines++) {
                if (Integer.bitCount(lines) == 3) {
                    String picture = kind.picture(wholeRows(lines));
                    isLeft(due, picture, picture);
                }
            }
        }
    }

    private static void threeByThree(Due due) {
        for (int rows = 0; rows < Line.PATTERNS; rows++) {
            for (int columns = 0; columns < Line.PATTERNS; columns++) {
                if (Integer.bitCount(rows) == 3 && Integer.bitCount(columns) == 3) {
                    String picture = crossings(rows, columns);
                    isLeft(due, picture, picture);
                }
            }
        }
    }

    private static void threeByThreeButOne(Due due) {
        Cells.each((row, column) -> {
            if (Pictures.isLost(THREE_BY_THREE, row, column)) {
                isLeft(due, without(THREE_BY_THREE, row, column), Pictures.NONE);
            }
        });
    }

    private static void threeInEachLine(Due due) {
        String ring = "###... .###.. ..###. ...### #...## ##...#";
        isLeft(due, ring, ring);
        String board = "#.#.#. .#.#.# #.#.#. .#.#.# #.#.#. .#.#.#";
        isLeft(due, board, board);
        String blocks = "###... ###... ###... ...### ...### ...###";
        isLeft(due, blocks, blocks);
    }

    private static void neitherAlone(Due due) {
        for (Line kind : Line.values()) {
            isLeft(due, kind.picture("###### ...... ...... ...... ...... ......"), Pictures.NONE);
            // Lines of one kind first, and only then one of the other kind.
            isLeft(due, kind.picture("###### ##.... ##.... ##.... ##.... ##...."), Pictures.NONE);
        }
    }

    /** Going over all rows and columns once, upwards or downwards, does not mend these whole. */
    private static void oneAfterAnother(Due due) {
        for (Line kind : Line.values()) {
            isLeft(due, kind.picture(".##.#. .###.. ##.### ##.#.. ##..#. ..##.#"), Pictures.NONE);
            isLeft(due, kind.picture("..###. ##..## .#...# ..###. ##.### .##.#."), Pictures.NONE);
            isLeft(due, kind.picture("..##.# ##.#.. #####. ##..## ...### .##..."), Pictures.NONE);
            isLeft(due, kind.picture("#.##.# .#..#. .###.. #..### ###..# .#..##"), Pictures.NONE);
            isLeft(due, kind.picture("..##.# .###.# ..#.#. #..##. ###..# ##.##."), Pictures.NONE);
        }
    }

    /** With the lines in every order, so that no order in which a program goes over them is spared. */
    private static void longestWays(Due due) {
        for (String longest : LONGEST) {
            for (int number = 0; number < ORDERS; number++) {
                int[] order = order(number);
                String picture = Pictures.where((row, column) ->
                    Pictures.isLost(longest, order[row], order[column]));
                isLeft(due, picture, Pictures.NONE);
                isLeft(due, Pictures.turned(picture), Pictures.NONE);
            }
        }
    }

    /** The numbers from 0 to 719 give each order of the six lines once; 0 leaves them as they are. */
    private static int[] order(int number) {
        List<Integer> left = new ArrayList<>(List.of(0, 1, 2, 3, 4, 5));
        int[] order = new int[Shelves.SIDE];
        int rest = number;
        for (int line = 0; line < Shelves.SIDE; line++) {
            order[line] = left.remove(rest % left.size());
            rest /= left.size() + 1;
        }
        return order;
    }

    private static void onlyAPart(Due due) {
        isLeft(due, "##.#.# #..... .#.#.# ..#.#. ...... .#.#.#", THREE_BY_THREE);
        isLeft(due, ".#.#.# ###### .#.#.# .#.#.# ...... .#.#.#", ".#.#.# .#.#.# .#.#.# .#.#.# ...... .#.#.#");
        isLeft(due, ".#.#.# ..#... .#.#.# #.#.#. ..#... .#.#.#", THREE_BY_THREE);
    }

    private static void noneIsMendedAfter(Due due) {
        Random random = new Random(9);
        for (int run = 0; run < 2000; run++) {
            String before = someLost(random, run);
            ProductShelf shelf = Shelves.filledWithLost(before);
            shelf.mend();
            for (int line = 0; line < Shelves.SIDE; line++) {
                due.same("mendRow(" + line + ") after mend() of " + before, shelf.mendRow(line), 0);
                due.same("mendColumn(" + line + ") after mend() of " + before, shelf.mendColumn(line), 0);
            }
            due.same("mend() again of " + before, shelf.mend(), 0);
        }
    }

    private static void anyOrder(Due due) {
        Random random = new Random(10);
        for (int run = 0; run < 2000; run++) {
            String before = someLost(random, run);
            ProductShelf atOnce = Shelves.filledWithLost(before);
            atOnce.mend();
            for (int step : new int[] {1, 5, 7, 11}) {
                ProductShelf byHand = Shelves.filledWithLost(before);
                mendByHand(byHand, step);
                sameCells(due, before, atOnce, byHand);
                due.same("mend() after mending by hand, of " + before, byHand.mend(), 0);
            }
        }
    }

    /** Rows are lines 0 to 5, columns 6 to 11; the step, prime to 12, sets their order. */
    private static void mendByHand(ProductShelf shelf, int step) {
        for (int turn = 0; turn < 12 * 12; turn++) {
            int line = turn * step % 12;
            if (line < 6) {
                shelf.mendRow(line);
            } else {
                shelf.mendColumn(line - 6);
            }
        }
    }

    private static void sameCells(Due due, String before, ProductShelf atOnce, ProductShelf byHand) {
        Cells.each((row, column) -> {
            String call = "lost" + Shelves.at(row, column) + " after mend() of " + before;
            due.same(call, atOnce.lost(row, column), byHand.lost(row, column));
        });
    }

    private static void answersTheDifference(Due due) {
        Random random = new Random(11);
        for (int run = 0; run < 2000; run++) {
            String before = someLost(random, run);
            ProductShelf shelf = Shelves.filledWithLost(before);
            int mended = shelf.mend();
            due.same("mend() of " + before, mended, Pictures.marks(before) - shelf.losses());
        }
    }

    private static void valuesComeBack(Due due) {
        ProductShelf shelf = Shelves.filledWithLost(".##... .##... ...... ...... ...... ......");
        shelf.write(0, 0, 250);
        shelf.write(0, 1, 251);
        shelf.mend();
        due.same("read(0, 0)", shelf.read(0, 0), 250);
        due.same("read(0, 1)", shelf.read(0, 1), Shelves.valueAt(0, 1));
        due.same("read(0, 2)", shelf.read(0, 2), Shelves.valueAt(0, 2));
        due.same("read(1, 1)", shelf.read(1, 1), Shelves.valueAt(1, 1));
        due.same("read(1, 2)", shelf.read(1, 2), Shelves.valueAt(1, 2));
    }

    private static void isLeft(Due due, String before, String after) {
        ProductShelf shelf = Shelves.filledWithLost(before);
        String call = "mend() of " + before;
        due.same(call, shelf.mend(), Pictures.marks(before) - Pictures.marks(after));
        Shelves.looksLike(due, call, shelf, after);
        due.same(call + " again", shelf.mend(), 0);
        Shelves.looksLike(due, call + " again", shelf, after);
    }

    private static boolean has(int bits, int bit) {
        return (bits >> bit & 1) == 1;
    }

    private static String wholeRows(int rows) {
        return Pictures.where((row, column) -> has(rows, row));
    }

    private static String crossings(int rows, int columns) {
        return Pictures.where((row, column) -> has(rows, row) && has(columns, column));
    }

    private static String without(String picture, int row, int column) {
        return Pictures.where((r, c) -> Pictures.isLost(picture, r, c) && !(r == row && c == column));
    }

    /** From nearly none lost to nearly all, turn by turn; the seed is fixed, so always the same. */
    private static String someLost(Random random, int run) {
        int percent = 5 + run % 19 * 5;
        return Pictures.where((row, column) -> random.nextInt(100) < percent);
    }
}
