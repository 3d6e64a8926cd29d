/** Objects that the tests of edges begin with. */
final class Made {
    static final int MIN = Integer.MIN_VALUE, MAX = Integer.MAX_VALUE;
    static final long LOST = Long.MIN_VALUE;
    static final int[] NO_SHEETS = {-1, 4, MIN, MAX};
    static final int[] NO_LANES = {-1, 3, MIN, MAX};
    static final String FULL_TEXT = "u;P123;H456;D789;P191";

    private Made() {
    }

    /** All that there can be: appliances, levels, times, readings. Sheet 3 has nothing. */
    static LoadCycles full() {
        LoadCycles x = new LoadCycles();
        Check.house(x, FULL_TEXT);
        Check.meter(x, 2, 7, 9, 40, 51, 99, 30, 12, 8, 3, 2, 16, 20, 18, 5, 6, 60, 61, 33, 11);
        x.base(2);
        for (int r = 0; r < 8; r++) {
            x.reading(r % 4, x.energy(r % 4));
        }
        Check.fill(x, 2, 1, 5, 0, 1, 100, -1, 2, 99, 7, 300, -300);
        x.tell(2);
        return x;
    }

    /** Two appliances, three times; sheet 2 has a row of none, sheet 3 nothing. */
    static LoadCycles small() {
        LoadCycles x = Check.of("u;P5;H92", 1, 6, 16, 4);
        x.reading(1, x.energy(1));
        x.sheet(2, 1, 0);
        x.metered(1);
        return x;
    }

    /** A house and no times; sheet 3 has nothing. */
    static LoadCycles timeless() {
        LoadCycles x = new LoadCycles();
        Check.house(x, "u;D5");
        Check.fill(x, 1, 2, 0, 1, 2);
        x.base(1);
        x.reading(0, 0);
        return x;
    }

    /** No house, but sheets with a text, values and pairs; sheet 3 has nothing. */
    static LoadCycles houseless() {
        LoadCycles x = new LoadCycles();
        Check.fill(x, 0, 0, FULL_TEXT.chars().toArray());
        Check.fill(x, 1, 2, 0, 99, 5, 100, -1);
        Check.fill(x, 2, 1, 1, 0, 0, 20, 99, 49, 0, 0);
        return x;
    }
}
