/** Promises 23 to 33: sheet, lose, put, cell, copy, tell, metered, as, trace, fault, many. */
public final class SheetTest {
    private static final int MIN = Integer.MIN_VALUE, MAX = Integer.MAX_VALUE;
    private static final Check check = new Check();

    public static void main(String[] args) {
        sheets();
        lanes();
        loseOne();
        putAndCell();
        copies();
        overlappingCopies();
        tellings();
        asKinds();
        faults();
        many();
        check.end();
    }

    private static void sheets() {
        LoadCycles x = new LoadCycles();
        for (int bad : new int[] {-1, 4, MIN, MAX}) {
            check.due("sheet(" + bad + ", 3, 61)", x.sheet(bad, 3, 61), -1);
            check.due("sheet(0, " + (bad == 4 ? 3 : bad) + ", -1)", x.sheet(0, bad == 4 ? 3 : bad, -1), -2);
        }
        check.due("sheet n 61", x.sheet(0, 0, 61), -2);
        check.due("sheet n MAX", x.sheet(0, 0, MAX), -2);
        check.due("sheet n -1", x.sheet(0, 0, -1), -14);
        check.due("its fault", x.fault(), 4);
        check.due("sheet n MIN", x.sheet(0, 2, MIN), -14);
        check.due("nothing was made", x.put(0, 0, 1), -11);
        check.due("sheet of 60", x.sheet(3, 2, 60), 1);
        check.due("its fault", x.fault(), 0);
        check.due("cell 59", x.cell(3, 59, 2), 0);
        check.due("cell 60", x.cell(3, 60, 2), Long.MIN_VALUE);
        x.put(3, 59, 7);
        x.put(3, 0, 8);
        check.due("a refusal", x.sheet(3, 2, 61), -2);
        check.due("a fault", x.sheet(3, 1, -1), -14);
        check.due("it is as it was", x.cell(3, 59, 2), 7);
        check.due("a new row", x.sheet(3, 2, 60), 1);
        check.due("cell 59 anew", x.cell(3, 59, 2), 0);
        check.due("cell 0 anew", x.cell(3, 0, 2), 0);
        x.put(3, 1, 5);
        x.sheet(3, 2, 1);
        check.due("a shorter row", x.cell(3, 1, 2), Long.MIN_VALUE);
        x.sheet(3, 2, 2);
        check.due("a longer row", x.cell(3, 1, 2), 0);
        check.due("a row of none", x.sheet(0, 1, 0), 1);
        check.due("its cell", x.put(0, 0, 1), -13);
        check.due("it had a row", x.lose(0), 1);
    }

    private static void lanes() {
        int[] told = {0, 1, -1, 127, 128, -128, -129, 255, 256, 32767, 32768, -32768, -32769, 65536, MAX, MIN};
        for (int v : told) {
            LoadCycles x = new LoadCycles();
            long[] due = {(byte) v, (short) v, v};
            for (int lane = 0; lane < 3; lane++) {
                x.sheet(lane, lane, 1);
                check.due("put " + v, x.put(lane, 0, v), 1);
                for (int as = -1; as < 4; as++) {
                    long want = as == lane ? due[lane] : Long.MIN_VALUE;
                    check.due("cell " + v + " of " + lane + " as " + as, x.cell(lane, 0, as), want);
                    int fault = as < 0 || as > 2 || as == lane ? 0 : 2;
                    check.due("its fault", x.fault(), fault);
                }
            }
        }
    }

    private static void loseOne() {
        LoadCycles x = new LoadCycles();
        for (int bad : new int[] {-1, 4, MIN, MAX}) {
            check.due("lose(" + bad + ")", x.lose(bad), -1);
        }
        check.due("lose(2)", x.lose(2), 0);
        x.sheet(2, 1, 3);
        x.put(2, 0, 9);
        check.due("lose(2) with a row", x.lose(2), 1);
        check.due("lose(2) again", x.lose(2), 0);
        check.due("put to nothing", x.put(2, 0, 1), -11);
        x.sheet(2, 1, 3);
        check.due("a row anew", x.cell(2, 0, 1), 0);
        x.put(2, 3, 1);
        check.due("fault ahead of lose", x.fault(), 3);
        x.lose(2);
        check.due("lose names no fault", x.fault(), 3);
        x.lose(9);
        check.due("lose refused names no fault", x.fault(), 3);
    }

    private static void putAndCell() {
        LoadCycles x = new LoadCycles();
        check.due("put(-1, ..)", x.put(-1, 0, 0), -1);
        check.due("put(4, ..)", x.put(4, 0, 0), -1);
        check.due("put to nothing", x.put(0, -1, 0), -11);
        check.due("its fault", x.fault(), 1);
        check.due("cell of nothing", x.cell(0, -1, 0), Long.MIN_VALUE);
        check.due("its fault", x.fault(), 1);
        x.sheet(0, 1, 3);
        for (int i : new int[] {-1, 3, MIN, MAX}) {
            check.due("put at " + i, x.put(0, i, 1), -13);
            check.due("its fault", x.fault(), 3);
            x.fault();
            check.due("cell at " + i, x.cell(0, i, 1), Long.MIN_VALUE);
            check.due("its fault", x.fault(), 3);
            check.due("cell at " + i + " of another lane", x.cell(0, i, 2), Long.MIN_VALUE);
            check.due("its fault", x.fault(), 2);
        }
        check.due("cell(4, ..)", x.cell(4, 0, 1), Long.MIN_VALUE);
        check.due("its fault", x.fault(), 0);
        x.put(0, 5, 5);
        check.due("cell(-1, ..)", x.cell(-1, 0, 1), Long.MIN_VALUE);
        check.due("its fault", x.fault(), 0);
        for (int i = 0; i < 3; i++) {
            check.due("put", x.put(0, i, 10 + i), 1);
        }
        for (int i = 0; i < 3; i++) {
            check.due("cell " + i, x.cell(0, i, 1), 10 + i);
        }
        check.due("its fault", x.fault(), 0);
    }

    private static void row(LoadCycles x, String name, int k, int lane, int... due) {
        for (int i = 0; i < due.length; i++) {
            check.due(name + " cell " + i, x.cell(k, i, lane), due[i]);
        }
    }

    private static void copies() {
        LoadCycles x = new LoadCycles();
        check.due("copy(-1, ..)", x.copy(-1, 0, 0, 0, 0), -1);
        check.due("copy to 4", x.copy(0, 0, 4, 0, 0), -1);
        check.due("copy of nothing", x.copy(0, -1, 1, -1, -1), -11);
        check.due("its fault", x.fault(), 1);
        Check.fill(x, 0, 1, 1, 2, 3, 4);
        check.due("copy to nothing", x.copy(0, -1, 1, 0, 9), -11);
        check.due("copy from nothing", x.copy(1, 0, 0, 0, 9), -11);
        Check.fill(x, 1, 2, 5, 6);
        check.due("copy of unlike lanes", x.copy(0, -1, 1, 0, -1), -12);
        check.due("its fault", x.fault(), 2);
        check.due("copy of unlike lanes, none", x.copy(0, 0, 1, 0, 0), -12);
        Check.fill(x, 1, 1, 5, 6);
        int[][] beyond = {{-1, 0, 0}, {0, -1, 0}, {0, 0, -1}, {5, 0, 0}, {0, 3, 0}, {0, 0, 3}, {3, 0, 2}, {0, 1, 2},
            {MAX, 0, 1}, {1, MAX, 1}, {MAX, MAX, MAX}, {0, 0, MIN}, {MIN, 0, MIN}};
        for (int[] c : beyond) {
            check.due("copy " + c[0] + " " + c[1] + " " + c[2], x.copy(0, c[0], 1, c[1], c[2]), -13);
            check.due("its fault", x.fault(), 3);
        }
        row(x, "after faults", 1, 1, 5, 6);
        check.due("copy of none at the ends", x.copy(0, 4, 1, 2, 0), 0);
        check.due("its fault", x.fault(), 0);
        check.due("copy of one", x.copy(0, 3, 1, 1, 1), 1);
        row(x, "after one", 1, 1, 5, 4);
        check.due("copy of two", x.copy(0, 1, 1, 0, 2), 2);
        row(x, "after two", 1, 1, 2, 3);
        row(x, "the first", 0, 1, 1, 2, 3, 4);
        Check.fill(x, 2, 1);
        check.due("copy beyond a longer one's need", x.copy(1, 0, 0, 2, 2), 2);
        row(x, "the first then", 0, 1, 1, 2, 2, 3);
        check.due("copy with a row of none", x.copy(2, 0, 0, 0, 1), -13);
    }

    private static void overlappingCopies() {
        LoadCycles x = new LoadCycles();
        Check.fill(x, 0, 0, 1, 2, 3, 4, 5);
        check.due("copy up", x.copy(0, 0, 0, 1, 4), 4);
        row(x, "up", 0, 0, 1, 1, 2, 3, 4);
        Check.fill(x, 0, 0, 1, 2, 3, 4, 5);
        check.due("copy down", x.copy(0, 1, 0, 0, 4), 4);
        row(x, "down", 0, 0, 2, 3, 4, 5, 5);
    }

    private static void tellings() {
        LoadCycles x = new LoadCycles();
        Check.house(x, "u;P59;H921;D4;D437");
        int trace = 0;
        check.due("tell(0)", x.tell(0), 2);
        check.due("trace", x.trace(), trace = 31 * trace + 1);
        check.due("metered(0)", x.metered(0), 14);
        check.due("trace", x.trace(), trace = 31 * trace + 4);
        check.due("tell(1)", x.tell(1), 103);
        check.due("trace", x.trace(), trace = 31 * (31 * trace + 2) + 1);
        check.due("metered(1)", x.metered(1), 12);
        check.due("trace", x.trace(), trace = 31 * trace + 4);
        check.due("tell(2)", x.tell(2), 102);
        check.due("trace", x.trace(), trace = 31 * (31 * (31 * (31 * trace + 3) + 2) + 1) + 1);
        check.due("metered(2)", x.metered(2), 90);
        check.due("trace", x.trace(), trace = 31 * trace + 5);
        check.due("tell(3)", x.tell(3), 106);
        check.due("trace", x.trace(), trace = 31 * (31 * (31 * (31 * trace + 3) + 2) + 1) + 1);
        x.level(0, 1, 1);
        check.due("metered(0) of another level", x.metered(0), 6);
        trace = 31 * trace + 4;
        for (int bad : new int[] {-1, 4, MIN, MAX}) {
            check.due("tell(" + bad + ")", x.tell(bad), -1);
            check.due("metered(" + bad + ")", x.metered(bad), -1);
        }
        check.due("trace after refusals", x.trace(), trace);
    }

    private static void asKinds() {
        LoadCycles x = new LoadCycles();
        Check.house(x, "u;P5;H9;D4");
        for (int a = 0; a < 3; a++) {
            for (int kind = 0; kind < 3; kind++) {
                check.due("as(" + a + ", " + kind + ")", x.as(a, kind), kind <= a ? 1 : -12);
                check.due("its fault", x.fault(), kind <= a ? 0 : 2);
            }
            for (int bad : new int[] {-1, 3, MIN, MAX}) {
                x.as(0, 2);
                check.due("as(" + a + ", " + bad + ")", x.as(a, bad), -2);
                check.due("its fault", x.fault(), 0);
                check.due("as(" + bad + ", " + bad + ")", x.as(bad, bad), -1);
                check.due("its fault", x.fault(), 0);
            }
        }
        check.due("trace", x.trace(), 0);
    }

    /** A call that names no fault leaves fault() as it is, refused or not; one that does tells its own. */
    private static void faults() {
        LoadCycles x = Check.of("u;P5;H9", 0, 5, 6);
        check.due("as", x.as(0, 1), -12);
        long[] answers = {x.ofAppliance(0, 0), x.ofAppliance(9, 0), x.level(0, 0, 4), x.level(0, 0, 99), x.value(0), x.value(9),
            x.base(0), x.base(-1), x.at(0, 0), x.at(9, 0), x.rest(0), x.rest(9), x.best(0), x.best(9), x.energy(0), x.energy(9),
            x.jump(0), x.jump(9), x.ways(0), x.ways(9), x.longest(0), x.longest(9), x.share(0), x.share(9), x.mean(),
            x.reading(0, 0), x.reading(9, 0), x.back(1), x.back(1), x.kinds(0), x.kinds(9), x.firsts(0), x.firsts(9),
            x.odds(0, 0), x.odds(9, 0), x.lose(3), x.lose(9), x.tell(0), x.tell(9), x.metered(0), x.metered(9), x.trace(),
            x.many(0), x.many(9)};
        check.due("fault after " + answers.length + " calls that name none", x.fault(), 2);
        check.due("fault again", x.fault(), 2);
        x.house(9, 0, 0, 0);
        check.due("fault after house", x.fault(), 0);
        x.as(0, 1);
        x.meter(9, 0, 0, 0);
        check.due("fault after meter", x.fault(), 0);
        x.as(0, 1);
        x.day(9, 0, 0, 0, 0);
        check.due("fault after day", x.fault(), 0);
        x.as(0, 1);
        x.sheet(9, 0, 0);
        check.due("fault after sheet", x.fault(), 0);
        x.as(0, 1);
        x.put(9, 0, 0);
        check.due("fault after put", x.fault(), 0);
        x.as(0, 1);
        x.cell(9, 0, 0);
        check.due("fault after cell", x.fault(), 0);
        x.as(0, 1);
        x.copy(9, 0, 0, 0, 0);
        check.due("fault after copy", x.fault(), 0);
        x.as(0, 1);
        x.as(9, 0);
        check.due("fault after as", x.fault(), 0);
        x.as(0, 1);
        check.due("a text that is not taken", Check.house(x, "u;"), -102);
        check.due("its fault", x.fault(), 0);
        x.as(0, 1);
        x.sheet(0, 0, 1);
        check.due("fault after a row is made", x.fault(), 0);
    }

    private static void many() {
        LoadCycles x = Check.of("u;P5;H92;D437", 2, 2, 7, 9, 3);
        x.reading(0, 5);
        x.reading(1, 5);
        int[] due = {3, 4, 6, 2, 2};
        for (int what = 0; what < 5; what++) {
            check.due("many(" + what + ")", x.many(what), due[what]);
        }
        for (int bad : new int[] {-1, 5, MIN, MAX}) {
            check.due("many(" + bad + ")", x.many(bad), -2);
        }
    }
}
