/** Promises 18 to 22: reading, back, kinds, firsts, odds. */
public final class ReadingTest {
    private static final int MIN = Integer.MIN_VALUE, MAX = Integer.MAX_VALUE;
    private static final Check check = new Check();

    public static void main(String[] args) {
        readings();
        kinds();
        firsts();
        readingsOfOthers();
        readingsStayWhileTheHouseChanges();
        odds();
        check.end();
    }

    private static void readings() {
        LoadCycles x = new LoadCycles();
        check.due("reading without a house", x.reading(0, 0), -1);
        check.due("back(0) without a house", x.back(0), 0);
        check.due("back(1) without a house", x.back(1), -2);
        Check.house(x, "u;P5;H2");
        for (int bad : new int[] {-1, 2, MIN, MAX}) {
            check.due("reading(" + bad + ", -1)", x.reading(bad, -1), -1);
        }
        for (int bad : new int[] {-1, 2001, MIN, MAX}) {
            check.due("reading(0, " + bad + ")", x.reading(0, bad), -2);
        }
        for (int r = 0; r < 8; r++) {
            check.due("reading " + r, x.reading(r % 2, r % 3 == 0 ? 0 : 2000), r);
            check.due("many(4)", x.many(4), r + 1);
        }
        check.due("reading 9", x.reading(0, 0), -4);
        check.due("reading 9, unknown", x.reading(2, 0), -1);
        check.due("reading 9, outside", x.reading(0, 2001), -2);
        check.due("back(9)", x.back(9), -2);
        check.due("back(-1)", x.back(-1), -2);
        check.due("back(MIN)", x.back(MIN), -2);
        check.due("back(0)", x.back(0), 8);
        check.due("back(3)", x.back(3), 5);
        check.due("reading again", x.reading(0, 1), 5);
        check.due("back(6)", x.back(6), 0);
        check.due("many(4) at last", x.many(4), 0);
    }

    private static void kinds() {
        LoadCycles x = Check.of("u;P3", 0, 6, 4, 3);
        check.due("no readings", x.kinds(0), 7);
        int[] energies = {9, 8, 6};
        for (int kind = 0; kind < 3; kind++) {
            x.reading(0, energies[kind]);
            check.due("kinds of " + energies[kind], x.kinds(0), 1 << kind);
            x.back(1);
        }
        x.reading(0, 7);
        check.due("kinds of 7", x.kinds(0), 0);
        x.reading(0, 9);
        check.due("kinds of 7 and 9", x.kinds(0), 0);
        x.back(2);
        x.reading(0, 9);
        x.reading(0, 9);
        check.due("kinds of 9 twice", x.kinds(0), 1);
        x.reading(0, 8);
        check.due("kinds of 9 and 8", x.kinds(0), 0);
        x.back(1);
        check.due("kinds with the last taken back", x.kinds(0), 1);
        check.due("the kind stays", x.ofAppliance(0, 0), 0);
        check.due("the energy stays", x.energy(0), 9);
        LoadCycles alike = Check.of("u;D1", 0, 2, 2);
        alike.reading(0, 4);
        check.due("HEAVY and DOUBLE alike", alike.kinds(0), 6);
        check.due("empty meter", zeroReading("u;H55").kinds(0), 7);
        for (int bad : new int[] {-1, 1, MIN, MAX}) {
            check.due("kinds(" + bad + ")", x.kinds(bad), -1);
        }
    }

    private static LoadCycles zeroReading(String text) {
        LoadCycles x = Check.of(text, 0);
        x.reading(0, 0);
        return x;
    }

    private static void firsts() {
        LoadCycles x = Check.of("u;P3", 0, 6, 4, 3);
        check.due("no readings", x.firsts(0), 1022);
        int[] energies = {0, 3, 6, 9, 8, 5, 6, 0, 0, 0};
        for (int energy = 0; energy <= 12; energy++) {
            x.reading(0, energy);
            int set = 0;
            for (int v = 1; v <= 9; v++) {
                set |= energies[v] == energy ? 1 << v : 0;
            }
            check.due("firsts of " + energy, x.firsts(0), set);
            x.back(1);
        }
        check.due("the level stays", x.ofAppliance(0, 10), 3);
        check.due("the energy stays", x.energy(0), 9);
        x = Check.of("u;H35", 0, 7, 6, 0);
        x.reading(0, 13);
        check.due("just LEVEL 0 is guessed", x.firsts(0), 1 << 6);
        check.due("the second level stays", x.ofAppliance(0, 11), 5);
        check.due("empty meter", zeroReading("u;H55").firsts(0), 1022);
        for (int bad : new int[] {-1, 1, MIN, MAX}) {
            check.due("firsts(" + bad + ")", x.firsts(bad), -1);
        }
    }

    private static void readingsOfOthers() {
        LoadCycles x = Check.of("u;P3;P7", 0, 7, 7);
        check.due("energy(1)", x.energy(1), 14);
        x.reading(1, 14);
        check.due("kinds of the other", x.kinds(0), 7);
        check.due("firsts of the other", x.firsts(0), 1022);
        x.reading(0, 0);
        check.due("firsts that leave it at 0", x.firsts(0), 1022);
        x.back(2);
        x.reading(1, 0);
        check.due("firsts by which the other has none", x.firsts(0), 0);
        check.due("kinds by which it has none", x.kinds(1), 6);
        check.due("firsts by which it has none", x.firsts(1), 1 << 8 | 1 << 9);
    }

    private static void readingsStayWhileTheHouseChanges() {
        LoadCycles x = Check.of("u;P3", 0, 6, 4, 3);
        x.reading(0, 9);
        check.due("kinds", x.kinds(0), 1);
        check.due("firsts", x.firsts(0), 1 << 3);
        x.level(0, 0, 2);
        check.due("readings stay", x.many(4), 1);
        check.due("kinds of another level", x.kinds(0), 2);
        x.base(3);
        check.due("firsts of another base", x.firsts(0), 0);
        check.due("kinds of another base", x.kinds(0), 0);
        Check.meter(x, 12, 12, 12);
        check.due("firsts of another meter", x.firsts(0), 1 << 3);
    }

    private static void odds() {
        LoadCycles x = Check.of("u;P9;P55;H9", 0, 9, 9, 0, 9, 9, 0, 0, 5, 5, 0);
        long[][] due = {{2, 5}, {1, 5}, {0, 1}};
        for (int a = 0; a < 3; a++) {
            check.due("odds(" + a + ", 0)", x.odds(a, 0), due[a][0]);
            check.due("odds(" + a + ", 1)", x.odds(a, 1), due[a][1]);
        }
        LoadCycles all = Check.of("u;P9", 0, 9, 9, 9);
        check.due("all upper", all.odds(0, 0), 1);
        check.due("all lower", all.odds(0, 1), 1);
        LoadCycles some = Check.of("u;P9", 0, 9, 9, 0);
        check.due("some upper", some.odds(0, 0), 2);
        check.due("some lower", some.odds(0, 1), 3);
        Check.meter(all, 9, 0, 0, 0, 0, 0);
        check.due("upper of a longer meter", all.odds(0, 0), 1);
        check.due("lower of a longer meter", all.odds(0, 1), 6);
        int[] always = new int[20];
        java.util.Arrays.fill(always, 9);
        Check.meter(all, always);
        check.due("upper of twenty times", all.odds(0, 0), 1);
        always[19] = 0;
        Check.meter(all, always);
        check.due("upper of nineteen", all.odds(0, 0), 19);
        check.due("lower of nineteen", all.odds(0, 1), 20);
        for (int bad : new int[] {-1, 3, MIN, MAX}) {
            check.due("odds(" + bad + ", 0)", x.odds(bad, 0), Long.MIN_VALUE);
        }
        for (int bad : new int[] {-1, 2, MIN, MAX}) {
            check.due("odds(0, " + bad + ")", x.odds(0, bad), Long.MIN_VALUE);
        }
        check.due("empty odds", Check.of("u;P9", 0).odds(0, 0), Long.MIN_VALUE);
        check.due("empty odds", Check.of("u;P9", 0).odds(0, 1), Long.MIN_VALUE);
        check.due("new odds", new LoadCycles().odds(0, 0), Long.MIN_VALUE);
    }
}
