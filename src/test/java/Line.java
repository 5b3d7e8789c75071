/** A row or a column: what the document says of the one it says of the other. */
enum Line {
    ROW("row") {
        @Override
        int lose(ProductShelf shelf, int line) {
            return shelf.loseRow(line);
        }

        @Override
        int mend(ProductShelf shelf, int line) {
            return shelf.mendRow(line);
        }

        @Override
        String picture(String asRows) {
            return asRows;
        }
    },
    COLUMN("column") {
        @Override
        int lose(ProductShelf shelf, int line) {
            return shelf.loseColumn(line);
        }

        @Override
        int mend(ProductShelf shelf, int line) {
            return shelf.mendColumn(line);
        }

        @Override
        String picture(String asRows) {
            return Pictures.turned(asRows);
        }
    };

    static final int PATTERNS = 64;
    static final int WHOLE = PATTERNS - 1;

    final String word;

    Line(String word) {
        this.word = word;
    }

    abstract int lose(ProductShelf shelf, int line);

    abstract int mend(ProductShelf shelf, int line);

    /** A picture drawn for rows, as it is for this kind of line. */
    abstract String picture(String asRows);

    /** One line's cells are lost by the pattern's bits, all other cells or none. */
    String pattern(int line, int pattern, boolean othersLost) {
        return picture(Pictures.where((row, column) ->
            row == line ? (pattern >> column & 1) == 1 : othersLost));
    }
}
