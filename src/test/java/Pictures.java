/** Pictures of lost cells: six words of six letters, a word a row, '#' for lost. */
final class Pictures {
    static final int SIDE = 6;
    static final String NONE = "...... ...... ...... ...... ...... ......";
    static final String MIXED = "#..... .#.... ..##.. ...... ....#. #....#";
    static final String ALL = "###### ###### ###### ###### ###### ######";

    interface Mark {
        boolean at(int row, int column);
    }

    private Pictures() {
    }

    static String where(Mark lost) {
        StringBuilder picture = new StringBuilder();
        for (int row = 0; row < SIDE; row++) {
            picture.append(row == 0 ? "" : " ");
            for (int column = 0; column < SIDE; column++) {
                picture.append(lost.at(row, column) ? '#' : '.');
            }
        }
        return picture.toString();
    }

    static boolean isLost(String picture, int row, int column) {
        return picture.charAt(row * (SIDE + 1) + column) == '#';
    }

    static String cell(int row, int column) {
        return where((r, c) -> r == row && c == column);
    }

    static String allBut(int row, int column) {
        return where((r, c) -> r != row || c != column);
    }

    /** Rows become columns. */
    static String turned(String picture) {
        return where((row, column) -> isLost(picture, column, row));
    }

    static int marks(String picture) {
        return (int) picture.chars().filter(letter -> letter == '#').count();
    }
}
