import java.util.HashMap;
import java.util.Map;
import java.util.Set;
import java.util.TreeSet;
import java.util.function.IntPredicate;

/** The document once more, written another way, to hold long runs of calls against. */
final class ModelShelf {
    private final Map<Integer, Integer> values = new HashMap<>();
    private final Set<Integer> lost = new TreeSet<>();

    int write(int row, int column, int value) {
        int before = read(row, column);
        if (before != -1) {
            values.put(10 * row + column, Math.floorMod(value, 256));
        }
        return before;
    }

    int read(int row, int column) {
        boolean data = 0 <= row && row <= 3 && 0 <= column && column <= 3;
        return data && lost(row, column) == 0 ? values.getOrDefault(10 * row + column, 0) : -1;
    }

    int lose(int row, int column) {
        return onShelf(row) && onShelf(column) ? loseWhere(cell -> cell == 10 * row + column) : -1;
    }

    int loseRow(int row) {
        return onShelf(row) ? loseWhere(cell -> cell / 10 == row) : -1;
    }

    int loseColumn(int column) {
        return onShelf(column) ? loseWhere(cell -> cell % 10 == column) : -1;
    }

    int mendRow(int row) {
        return onShelf(row) ? mendWhere(cell -> cell / 10 == row) : -1;
    }

    int mendColumn(int column) {
        return onShelf(column) ? mendWhere(cell -> cell % 10 == column) : -1;
    }

    int mend() {
        int before = lost.size();
        while (mendLastLine()) {
            continue;
        }
        return before - lost.size();
    }

    int lost(int row, int column) {
        return onShelf(row) && onShelf(column) ? (lost.contains(10 * row + column) ? 1 : 0) : -1;
    }

    int losses() {
        return lost.size();
    }

    int total() {
        int total = 0;
        for (Map.Entry<Integer, Integer> entry : values.entrySet()) {
            total += lost.contains(entry.getKey()) ? 0 : entry.getValue();
        }
        return total;
    }

    /** One line a time, the last columns first: another order than the program's. */
    private boolean mendLastLine() {
        for (int line = 5; line >= 0; line--) {
            if (mendColumn(line) > 0 || mendRow(line) > 0) {
                return true;
            }
        }
        return false;
    }

    private int loseWhere(IntPredicate chosen) {
        int before = lost.size();
        for (int row = 0; row <= 5; row++) {
            for (int column = 0; column <= 5; column++) {
                if (chosen.test(10 * row + column)) {
                    lost.add(10 * row + column);
                }
            }
        }
        return lost.size() - before;
    }

    private int mendWhere(IntPredicate chosen) {
        int count = (int) lost.stream().filter(chosen::test).count();
        if (count > 2) {
            return 0;
        }
        lost.removeIf(chosen::test);
        return count;
    }

    private static boolean onShelf(int index) {
        return 0 <= index && index <= 5;
    }
}
