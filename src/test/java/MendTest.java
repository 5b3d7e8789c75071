/** Promise 9. */
public final class MendTest {
    private static final String THREE_BY_THREE = ".#.#.# ...... .#.#.# ...... ...... .#.#.#";

    public static void main(String[] args) {
        Due due = new Due();
        nothingIsLeft(due, Shelves.NONE_LOST);
        nothingIsLeft(due, "...... ...... ...... ..#... ...... ......");
        nothingIsLeft(due, "###### ...... ...... ...... ...... ......");
        nothingIsLeft(due, "...... ###### ...... ...... ###### ......");
        nothingIsLeft(due, "#....# #....# #....# #....# #....# #....#");
        nothingIsLeft(due, "....## ....## ....## ....## ###### ######");
        nothingIsLeft(due, "###### ###### ##.... ##.... ##.... ##....");
        linesThatOpenOneAfterAnother(due);
        stuckPatternsStay(due);
        onlyThePartThatCanBeMendedIsMended(due);
        valuesComeBack(due);
        due.end();
    }

    /** Going over all rows and columns once, upwards or downwards, does not mend these whole. */
    private static void linesThatOpenOneAfterAnother(Due due) {
        nothingIsLeft(due, ".##.#. .###.. ##.### ##.#.. ##..#. ..##.#");
        nothingIsLeft(due, "..###. ##..## .#...# ..###. ##.### .##.#.");
        nothingIsLeft(due, "..##.# ##.#.. #####. ##..## ...### .##...");
        nothingIsLeft(due, "#.##.# .#..#. .###.. #..### ###..# .#..##");
        nothingIsLeft(due, "..##.# .###.# ..#.#. #..##. ###..# ##.##.");
    }

    private static void stuckPatternsStay(Due due) {
        isLeft(due, THREE_BY_THREE, THREE_BY_THREE);
        String allLost = "###### ###### ###### ###### ###### ######";
        isLeft(due, allLost, allLost);
        String threeRows = "###### ...... ###### ...... ...... ######";
        isLeft(due, threeRows, threeRows);
        String threeColumns = ".#.#.# .#.#.# .#.#.# .#.#.# .#.#.# .#.#.#";
        isLeft(due, threeColumns, threeColumns);
        String ring = "###... .###.. ..###. ...### #...## ##...#";
        isLeft(due, ring, ring);
    }

    private static void onlyThePartThatCanBeMendedIsMended(Due due) {
        isLeft(due, "##.#.# #..... .#.#.# ..#.#. ...... .#.#.#", THREE_BY_THREE);
        isLeft(due, ".#.#.# ###### .#.#.# .#.#.# ...... .#.#.#", ".#.#.# .#.#.# .#.#.# .#.#.# ...... .#.#.#");
        isLeft(due, ".#.#.# ..#... .#.#.# #.#.#. ..#... .#.#.#", THREE_BY_THREE);
    }

    private static void valuesComeBack(Due due) {
        ProductShelf shelf = Shelves.filledWithLost(".##... .##... ...... ...... ...... ......");
        shelf.write(0, 0, 250);
        shelf.write(0, 1, 251);
        due.same("mend()", shelf.mend(), 4);
        due.same("read(0, 0)", shelf.read(0, 0), 250);
        due.same("read(0, 1)", shelf.read(0, 1), Shelves.valueAt(0, 1));
        due.same("read(1, 2)", shelf.read(1, 2), Shelves.valueAt(1, 2));
    }

    private static void nothingIsLeft(Due due, String before) {
        isLeft(due, before, Shelves.NONE_LOST);
    }

    private static void isLeft(Due due, String before, String after) {
        ProductShelf shelf = Shelves.filledWithLost(before);
        String call = "mend() of " + before;
        due.same(call, shelf.mend(), marks(before) - marks(after));
        Shelves.looksLike(due, call, shelf, after);
        due.same(call + " again", shelf.mend(), 0);
        Shelves.looksLike(due, call + " again", shelf, after);
    }

    private static int marks(String picture) {
        int marks = 0;
        for (int i = 0; i < picture.length(); i++) {
            marks += picture.charAt(i) == '#' ? 1 : 0;
        }
        return marks;
    }
}
