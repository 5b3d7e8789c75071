public final class ProductShelf {
    private static final int SIDE = 6;
    private static final int CELLS = SIDE * SIDE;
    private static final int LINES = SIDE + SIDE;
    private static final int DATA_SIDE = 4;
    private static final int DATA_CELLS = DATA_SIDE * DATA_SIDE;
    private static final int MOST_MENDED_AT_ONCE = 2;
    private static final int VALUE_MASK = 255;
    private static final int REFUSED = -1;

    // A lost data cell keeps its value, so losing and mending touch only
    // the flags, and a spare cell needs nothing but its flag.
    private final int[] values = new int[DATA_CELLS];
    private final boolean[] gone = new boolean[CELLS];

    public ProductShelf() {
        // Java's fresh arrays are the start that is due: all 0, none lost.
    }

    public int write(int row, int column, int value) {
        if (!canBeRead(row, column)) {
            return REFUSED;
        }
        int place = valuePlace(row, column);
        int before = values[place];
        values[place] = value & VALUE_MASK;
        return before;
    }

    public int read(int row, int column) {
        if (!canBeRead(row, column)) {
            return REFUSED;
        }
        return values[valuePlace(row, column)];
    }

    public int lose(int row, int column) {
        if (!isOnSide(row) || !isOnSide(column)) {
            return REFUSED;
        }
        int cell = cellPlace(row, column);
        int newlyLost = gone[cell] ? 0 : 1;
        gone[cell] = true;
        return newlyLost;
    }

    public int loseRow(int row) {
        if (!isOnSide(row)) {
            return REFUSED;
        }
        return loseLine(row * SIDE, 1);
    }

    public int loseColumn(int column) {
        if (!isOnSide(column)) {
            return REFUSED;
        }
        return loseLine(column, SIDE);
    }

    public int mendRow(int row) {
        if (!isOnSide(row)) {
            return REFUSED;
        }
        return mendLine(row * SIDE, 1);
    }

    public int mendColumn(int column) {
        if (!isOnSide(column)) {
            return REFUSED;
        }
        return mendLine(column, SIDE);
    }

    public int mend() {
        int mended = 0;
        // A mended line has no lost cell left and gets none here, so each
        // line is mended at most once. A pass that finds nothing to mend is
        // followed only by such passes: as many passes as lines are enough.
        for (int pass = 0; pass < LINES; pass++) {
            mended += mendEachLineOnce();
        }
        return mended;
    }

    public int lost(int row, int column) {
        if (!isOnSide(row) || !isOnSide(column)) {
            return REFUSED;
        }
        return gone[cellPlace(row, column)] ? 1 : 0;
    }

    public int losses() {
        int count = 0;
        for (int cell = 0; cell < CELLS; cell++) {
            if (gone[cell]) {
                count++;
            }
        }
        return count;
    }

    public int total() {
        int sum = 0;
        for (int row = 0; row < DATA_SIDE; row++) {
            for (int column = 0; column < DATA_SIDE; column++) {
                if (canBeRead(row, column)) {
                    sum += values[valuePlace(row, column)];
                }
            }
        }
        return sum;
    }

    private static boolean isOnSide(int index) {
        return index >= 0 && index < SIDE;
    }

    private static boolean isOnDataSide(int index) {
        return index >= 0 && index < DATA_SIDE;
    }

    private static int cellPlace(int row, int column) {
        return row * SIDE + column;
    }

    private static int valuePlace(int row, int column) {
        return row * DATA_SIDE + column;
    }

    private boolean canBeRead(int row, int column) {
        return isOnDataSide(row) && isOnDataSide(column) && !gone[cellPlace(row, column)];
    }

    // Rows and columns are both lines: SIDE cells from a first one on, at a
    // fixed step, so one piece of code serves for both.

    private int lostInLine(int first, int step) {
        int count = 0;
        for (int i = 0; i < SIDE; i++) {
            if (gone[first + i * step]) {
                count++;
            }
        }
        return count;
    }

    private void markLine(int first, int step, boolean isGone) {
        for (int i = 0; i < SIDE; i++) {
            gone[first + i * step] = isGone;
        }
    }

    private int loseLine(int first, int step) {
        int lostBefore = lostInLine(first, step);
        markLine(first, step, true);
        return SIDE - lostBefore;
    }

    private int mendLine(int first, int step) {
        int lostBefore = lostInLine(first, step);
        if (lostBefore > MOST_MENDED_AT_ONCE) {
            return 0;
        }
        // A line with none lost can't be mended either: clearing it changes
        // nothing, and its count is the 0 that is due.
        markLine(first, step, false);
        return lostBefore;
    }

    private int mendEachLineOnce() {
        int mended = 0;
        for (int i = 0; i < SIDE; i++) {
            mended += mendLine(i * SIDE, 1);
            mended += mendLine(i, SIDE);
        }
        return mended;
    }
}
