/** What the tests share: counting wrong answers, and filling sheets. */
final class Check {
    private int wrong;

    void due(String call, long got, long want) {
        if (got != want) {
            wrong(call + " answered " + got + ", due is " + want);
        }
    }

    void wrong(String what) {
        wrong++;
        if (wrong <= 40) {
            System.out.println(what);
        }
    }

    void end() {
        if (wrong != 0) {
            System.out.println(wrong + " answers are not as due");
            System.exit(1);
        }
    }

    int wrongs() {
        return wrong;
    }

    static void fill(LoadCycles x, int k, int lane, int... cells) {
        x.sheet(k, lane, cells.length);
        for (int i = 0; i < cells.length; i++) {
            x.put(k, i, cells[i]);
        }
    }

    static int house(LoadCycles x, String text) {
        fill(x, 0, 0, text.chars().toArray());
        return x.house(0, 0, 0, text.length());
    }

    static int meter(LoadCycles x, int... values) {
        fill(x, 1, 2, values);
        return x.meter(1, 2, 0, values.length);
    }

    static int day(LoadCycles x, int what, int... cells) {
        fill(x, 2, 2, cells);
        return x.day(2, 2, 0, cells.length / 2, what);
    }

    static LoadCycles of(String text, int base, int... values) {
        LoadCycles x = new LoadCycles();
        house(x, text);
        meter(x, values);
        x.base(base);
        return x;
    }
}
