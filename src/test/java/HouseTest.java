/** Promises 1 to 7: a new object, house, ofAppliance, level, meter, value, base. */
public final class HouseTest {
    private static final int MIN = Integer.MIN_VALUE, MAX = Integer.MAX_VALUE;
    private static final Check check = new Check();

    public static void main(String[] args) {
        newObject();
        textsTaken();
        textsRefused();
        textKeepsAndForgets();
        houseRefusals();
        ofAppliance();
        level();
        meter();
        base();
        check.end();
    }

    private static void newObject() {
        LoadCycles x = new LoadCycles();
        for (int what = 0; what < 5; what++) {
            check.due("new many(" + what + ")", x.many(what), 0);
        }
        for (int k = 0; k < 4; k++) {
            check.due("new lose(" + k + ")", x.lose(k), 0);
        }
        check.due("new value(0)", x.value(0), -1);
        check.due("new trace()", x.trace(), 0);
        check.due("new fault()", x.fault(), 0);
        check.due("new ofAppliance(0, 0)", x.ofAppliance(0, 0), -1);
        check.due("new best(0)", x.best(0), -3);
        check.due("new base(0)", x.base(0), -3);
    }

    private static void takes(String text, int appliances, int levels) {
        LoadCycles x = new LoadCycles();
        check.due("house " + text, Check.house(x, text), appliances);
        check.due("levels of " + text, x.many(2), levels);
        check.due("fault of " + text, x.fault(), 0);
    }

    private static void textsTaken() {
        takes("u;P1", 1, 1);
        takes("u;H99", 1, 2);
        takes("u;D123", 1, 3);
        takes("u;P1;H2", 2, 2);
        takes("u;P1;H2;D3;P4", 4, 4);
        takes("u;P123;H456;D789;P111", 4, 12);
    }

    private static void refuses(String text, int place) {
        LoadCycles x = new LoadCycles();
        check.due("house " + text, Check.house(x, text), -100 - place);
        check.due("appliances after " + text, x.many(0), 0);
        check.due("fault after " + text, x.fault(), 0);
        Check.house(x, "u;H37;P5");
        check.due("house again " + text, Check.house(x, text), -100 - place);
        check.due("appliances kept after " + text, x.many(0), 2);
        check.due("kind kept after " + text, x.ofAppliance(0, 0), 1);
        check.due("levels kept after " + text, x.many(2), 3);
        check.due("a level kept after " + text, x.ofAppliance(0, 11), 7);
    }

    private static void textsRefused() {
        refuses("", 0);
        refuses("x", 0);
        refuses("U;P1", 0);
        refuses(";P1", 0);
        refuses("u", 1);
        refuses("uu", 1);
        refuses("uP1", 1);
        refuses("u1", 1);
        refuses("u;", 2);
        refuses("u;;", 2);
        refuses("u;u", 2);
        refuses("u;1", 2);
        refuses("u;Q1", 2);
        refuses("u;p1", 2);
        refuses("u;P", 3);
        refuses("u;P;", 3);
        refuses("u;P0", 3);
        refuses("u;P:", 3);
        refuses("u;PP", 3);
        refuses("u;P10", 4);
        refuses("u;P1P", 4);
        refuses("u;P1u", 4);
        refuses("u;P1;", 5);
        refuses("u;P1;;", 5);
        refuses("u;P1234", 6);
        refuses("u;P123:", 6);
        refuses("u;P1;H1234;P5", 9);
        refuses("u;P1;P1;P1;P1;", 13);
        refuses("u;P1;P1;P1;P1;P1", 13);
        refuses("u;P111;P111;P111;P111;", 21);
        refuses("u;P111;P111;P111;P1111", 21);
        refuses("u;P1;P1;P1;P", 12);
    }

    private static void textKeepsAndForgets() {
        LoadCycles x = Check.of("u;P5;D2", 3, 4, 9, 9);
        x.reading(0, 5);
        x.tell(1);
        int trace = x.trace();
        Check.fill(x, 3, 1, 7, 8);
        check.due("energy before", x.energy(0) + x.energy(1), 10);
        check.due("house anew", Check.house(x, "u;P5;D2"), 2);
        check.due("times anew", x.many(1), 0);
        check.due("base anew", x.many(3), 0);
        check.due("readings anew", x.many(4), 0);
        check.due("energy anew", x.energy(0) + x.energy(1), 0);
        check.due("value anew", x.value(0), -1);
        check.due("trace kept", x.trace(), trace);
        check.due("sheet kept", x.cell(3, 1, 1), 8);
        check.due("kinds anew", x.kinds(0), 7);
    }

    private static void houseRefusals() {
        LoadCycles x = new LoadCycles();
        check.due("house(-1, ..)", x.house(-1, 3, 0, -1), -1);
        check.due("house(4, ..)", x.house(4, 0, 0, 0), -1);
        check.due("house(0, 3, ..)", x.house(0, 3, 0, -1), -2);
        check.due("house(0, -1, ..)", x.house(0, -1, 0, 0), -2);
        check.due("house of nothing", x.house(0, 0, 0, -1), -11);
        check.due("its fault", x.fault(), 1);
        check.due("house refused", x.house(0, 3, 0, -1), -2);
        check.due("a refusal's fault", x.fault(), 0);
        Check.fill(x, 0, 1, 0, 0, 117, 59, 80, 53, 0);
        check.due("house of another lane", x.house(0, 0, -5, -1), -12);
        check.due("its fault", x.fault(), 2);
        check.due("house n -1", x.house(0, 1, -5, -1), -14);
        check.due("its fault", x.fault(), 4);
        check.due("house n MIN", x.house(0, 1, 0, MIN), -14);
        int[][] beyond = {{-1, 0}, {8, 0}, {0, 8}, {7, 1}, {2, 6}, {MAX, MAX}, {MAX, 1}, {1, MAX}, {MIN, 0}, {MIN, MAX}};
        for (int[] cells : beyond) {
            check.due("house cells " + cells[0] + " " + cells[1], x.house(0, 1, cells[0], cells[1]), -13);
            check.due("its fault", x.fault(), 3);
        }
        check.due("no cells at the end", x.house(0, 1, 7, 0), -100);
        check.due("its fault", x.fault(), 0);
        check.due("house within", x.house(0, 1, 2, 4), 1);
        check.due("house within, short", x.house(0, 1, 2, 3), -103);
        check.due("house within, long", x.house(0, 1, 2, 5), -104);
        x.sheet(0, 0, 0);
        check.due("house of an empty row", x.house(0, 0, 0, 0), -100);
        check.due("house beyond an empty row", x.house(0, 0, 1, 0), -13);
        Check.fill(x, 0, 2, 117 + 256, 59, 80, 53);
        check.due("a code is not cut", x.house(0, 2, 0, 4), -100);
    }

    private static void ofAppliance() {
        LoadCycles x = new LoadCycles();
        Check.house(x, "u;P9;H92;D937");
        int[][] due = {
            {0, 1, 9, -9, -9, 9, -9, -9},
            {1, 2, 9, 2, -9, 10, 3, -9},
            {2, 3, 9, 3, 7, 18, 6, 14}};
        int[] whats = {0, 1, 10, 11, 12, 20, 21, 22};
        for (int a = 0; a < 3; a++) {
            for (int w = 0; w < whats.length; w++) {
                check.due("ofAppliance(" + a + ", " + whats[w] + ")", x.ofAppliance(a, whats[w]), due[a][w]);
            }
            for (int what : new int[] {-1, 2, 9, 13, 19, 23, MIN, MAX}) {
                check.due("ofAppliance(" + a + ", " + what + ")", x.ofAppliance(a, what), -2);
            }
        }
        for (int a : new int[] {-1, 3, 4, MIN, MAX}) {
            check.due("ofAppliance(" + a + ", 0)", x.ofAppliance(a, 0), -1);
            check.due("ofAppliance(" + a + ", 99)", x.ofAppliance(a, 99), -1);
        }
    }

    private static void level() {
        LoadCycles x = Check.of("u;P5;H23", 0, 5, 5);
        check.due("energy", x.energy(0), 10);
        check.due("level(0, 0, 4)", x.level(0, 0, 4), 5);
        check.due("energy after level", x.energy(0), 8);
        check.due("told", x.ofAppliance(0, 10), 4);
        check.due("level(1, 1, 9)", x.level(1, 1, 9), 3);
        check.due("level(1, 1, 1)", x.level(1, 1, 1), 9);
        check.due("power", x.ofAppliance(1, 21), 2);
        check.due("other level", x.ofAppliance(1, 10), 2);
        check.due("level(-1, 0, 1)", x.level(-1, 0, 1), -1);
        check.due("level(2, 0, 0)", x.level(2, 0, 0), -1);
        check.due("level(0, 1, 0)", x.level(0, 1, 0), -1);
        check.due("level(0, -1, 1)", x.level(0, -1, 1), -1);
        check.due("level(1, 2, 1)", x.level(1, 2, 1), -1);
        check.due("level(0, MAX, 1)", x.level(0, MAX, 1), -1);
        check.due("level(0, 0, 0)", x.level(0, 0, 0), -2);
        check.due("level(0, 0, 10)", x.level(0, 0, 10), -2);
        check.due("level(0, 0, -1)", x.level(0, 0, -1), -2);
        check.due("told, after refusals", x.ofAppliance(0, 10), 4);
        check.due("times stay", x.many(1), 2);
    }

    private static void meter() {
        LoadCycles x = new LoadCycles();
        Check.fill(x, 1, 1, 3, 99, 0, 100, -1, 5);
        check.due("meter without a house", x.meter(1, 1, 0, 2), -3);
        check.due("meter of bad cells without a house", x.meter(1, 1, 2, 2), -3);
        check.due("a fault comes ahead of STATE", x.meter(1, 1, 0, 7), -13);
        Check.house(x, "u;P3");
        check.due("meter", x.meter(1, 1, 0, 3), 3);
        check.due("value(0)", x.value(0), 3);
        check.due("value(1)", x.value(1), 99);
        check.due("value(2)", x.value(2), 0);
        check.due("value(3)", x.value(3), -1);
        check.due("value(-1)", x.value(-1), -1);
        check.due("value(MIN)", x.value(MIN), -1);
        check.due("value(MAX)", x.value(MAX), -1);
        check.due("energy", x.energy(0), 6);
        check.due("a cell of 100", x.meter(1, 1, 2, 2), -2);
        check.due("a cell of -1", x.meter(1, 1, 4, 1), -2);
        check.due("fault of OUTSIDE", x.fault(), 0);
        check.due("times kept", x.many(1), 3);
        check.due("value kept", x.value(0), 3);
        check.due("meter(-1, 3, 0, -1)", x.meter(-1, 3, 0, -1), -1);
        check.due("meter(4, ..)", x.meter(4, 1, 0, 0), -1);
        check.due("meter lane 3", x.meter(1, 3, 0, 0), -2);
        check.due("meter lane -1", x.meter(1, -1, 0, 0), -2);
        check.due("meter n -1", x.meter(1, 1, 0, -1), -2);
        check.due("meter n MIN", x.meter(1, 1, 0, MIN), -2);
        check.due("meter n 21", x.meter(2, 1, 0, 21), -2);
        check.due("meter cast", x.meter(1, 2, 9, 1), -12);
        check.due("its fault", x.fault(), 2);
        check.due("meter null", x.meter(2, 1, 9, 1), -11);
        check.due("its fault", x.fault(), 1);
        for (int[] cells : new int[][] {{-1, 0}, {7, 0}, {0, 7}, {6, 1}, {MAX, 20}, {MIN, 20}}) {
            check.due("meter cells " + cells[0] + " " + cells[1], x.meter(1, 1, cells[0], cells[1]), -13);
            check.due("its fault", x.fault(), 3);
        }
        check.due("meter of none", x.meter(1, 1, 6, 0), 0);
        check.due("its fault", x.fault(), 0);
        check.due("no times", x.many(1), 0);
        check.due("energy of none", x.energy(0), 0);
        check.due("meter from 5", x.meter(1, 1, 5, 1), 1);
        check.due("value(0) from 5", x.value(0), 5);
        x.sheet(3, 0, 21);
        check.due("meter n 20", x.meter(3, 0, 1, 20), 20);
        check.due("value(19)", x.value(19), 0);
        x.reading(0, 1);
        x.meter(1, 1, 0, 2);
        check.due("a meter keeps readings", x.many(4), 1);
    }

    private static void base() {
        LoadCycles x = new LoadCycles();
        check.due("base(100) without a house", x.base(100), -2);
        check.due("base(5) without a house", x.base(5), -3);
        Check.house(x, "u;P3");
        check.due("base(99) of an empty meter", x.base(99), 0);
        check.due("base(-1)", x.base(-1), -2);
        check.due("base(100)", x.base(100), -2);
        check.due("base(MIN)", x.base(MIN), -2);
        check.due("many(3)", x.many(3), 99);
        check.due("meter below the base", Check.meter(x, 99, 98), -2);
        check.due("meter at the base", Check.meter(x, 99, 99), 2);
        check.due("base(5)", x.base(5), 99);
        check.due("meter with 5", Check.meter(x, 8, 5, 6), 3);
        check.due("rest(0)", x.rest(0), 0);
        check.due("base(6)", x.base(6), -3);
        check.due("many(3) after a refusal", x.many(3), 5);
        check.due("base(5) again", x.base(5), 5);
        check.due("meter with the least first", Check.meter(x, 5, 7, 8), 3);
        check.due("base(6), the least first", x.base(6), -3);
        check.due("meter with the least last", Check.meter(x, 8, 7, 5), 3);
        check.due("base(6), the least last", x.base(6), -3);
        check.due("base(0)", x.base(0), 5);
        check.due("rest(0) after", x.rest(0), 5);
    }
}
