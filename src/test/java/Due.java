/** Counts the answers looked at, and prints each one that is not the one that is due. */
final class Due {
    private int looked = 0;
    private int wrong = 0;

    void same(String call, int got, int want) {
        looked++;
        if (got != want) {
            wrong++;
            System.out.println(call + " answered " + got + ", due is " + want);
        }
    }

    /** A check that looked at nothing must not count as one that passed. */
    boolean isMet() {
        return looked > 0 && wrong == 0;
    }
}
