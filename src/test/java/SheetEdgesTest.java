/** The edges of part 5 and of promises 23 to 33; above each test stand the document's words that it is of. */
public final class SheetEdgesTest {
    private static final int MIN = Made.MIN, MAX = Made.MAX;
    private static final long LOST = Made.LOST;
    private static final int[] LANES = {0, 1, 2};
    private static final Check check = new Check();

    public static void main(String[] args) {
        rowsOfNoneToSixty();
        rowsAreZeroAtFirst();
        sheetRefused();
        sheetSize();
        loseAtItsEdges();
        loseRefused();
        cutToItsLane();
        putAtTheEndsOfARow();
        putRefused();
        cellOfTheLaneThatItIs();
        cellRefused();
        copyOfNoneToAll();
        copyOfWhatWas();
        copyRefused();
        copyIndex();
        tellings();
        meterings();
        traceWraps();
        tellAndMeteredRefused();
        asKinds();
        asRefused();
        faultAheadOfAny();
        faultOfTheLatestCallThatNamesOne();
        manyAtTheirEdges();
        manyRefused();
        fiveHundredAndTwelveCalls();
        check.end();
    }

    /** "SHEETS 0 .. 3 have nothing (at first), or a row of 0 .. 60 numbers". */
    private static void rowsOfNoneToSixty() {
        for (int k = 0; k < 4; k++) {
            for (int lane : LANES) {
                for (int n : new int[] {0, 1, 59, 60}) {
                    LoadCycles x = new LoadCycles();
                    check.due("sheet(" + k + ", " + lane + ", " + n + ")", x.sheet(k, lane, n), 1);
                    check.due("fault()", x.fault(), 0);
                    check.due("its last cell", x.put(k, n - 1, 5), n == 0 ? -13 : 1);
                    check.due("beyond its last cell", x.put(k, n, 5), -13);
                    check.due("it has a row", x.lose(k), 1);
                    check.due("the others have nothing", x.lose((k + 1) % 4) + x.lose((k + 2) % 4) + x.lose((k + 3) % 4), 0);
                }
            }
        }
    }

    /** "(0 at first)"; sheet: "A SHEET gets a new row: 1." */
    private static void rowsAreZeroAtFirst() {
        for (int lane : LANES) {
            LoadCycles x = new LoadCycles();
            x.sheet(2, 2 - lane, 60);
            for (int i = 0; i < 60; i++) {
                x.put(2, i, 70 + i);
            }
            x.sheet(2, lane, 3);
            check.due("a shorter row", x.sheet(2, lane, 60), 1);
            for (int i = 0; i < 60; i++) {
                check.due("cell " + i + " anew", x.cell(2, i, lane), 0);
            }
            x.put(2, 7, 7);
            check.due("lose", x.lose(2), 1);
            x.sheet(2, lane, 60);
            check.due("cell 7 after lose", x.cell(2, 7, lane), 0);
        }
    }

    /** sheet: "UNKNOWN; OUTSIDE: lane, n above 60", ahead of SIZE. */
    private static void sheetRefused() {
        Refusals full = new Refusals(check, "full", Made::full);
        for (int k : Made.NO_SHEETS) {
            full.named("sheet(" + k + ", 0, 1)", x -> x.sheet(k, 0, 1), -1, 0);
            full.named("sheet(" + k + ", 3, 61)", x -> x.sheet(k, 3, 61), -1, 0);
            full.named("sheet(" + k + ", 0, -1)", x -> x.sheet(k, 0, -1), -1, 0);
        }
        for (int lane : Made.NO_LANES) {
            full.named("sheet(0, " + lane + ", 1)", x -> x.sheet(0, lane, 1), -2, 0);
            full.named("sheet(3, " + lane + ", -1)", x -> x.sheet(3, lane, -1), -2, 0);
        }
        for (int n : new int[] {61, 62, MAX}) {
            full.named("sheet(1, 2, " + n + ")", x -> x.sheet(1, 2, n), -2, 0);
            full.named("sheet(3, 0, " + n + ")", x -> x.sheet(3, 0, n), -2, 0);
        }
    }

    /** "4 SIZE (a length below 0)". */
    private static void sheetSize() {
        Refusals full = new Refusals(check, "full", Made::full);
        for (int k = 0; k < 4; k++) {
            int of = k;
            for (int n : new int[] {-1, -60, MIN}) {
                full.named("sheet(" + k + ", 1, " + n + ")", x -> x.sheet(of, 1, n), -14, 4);
            }
        }
    }

    /** lose: "A SHEET has nothing: 1; 0: it had nothing." */
    private static void loseAtItsEdges() {
        LoadCycles x = new LoadCycles();
        for (int k = 0; k < 4; k++) {
            check.due("lose of nothing", x.lose(k), 0);
            x.sheet(k, 0, 0);
            check.due("lose of a row of none", x.lose(k), 1);
            check.due("lose again", x.lose(k), 0);
            check.due("NULL then", x.put(k, 0, 0), -11);
            check.due("NULL, not CAST, then", x.cell(k, 0, 2), LOST);
            check.due("fault()", x.fault(), 1);
        }
        x = Made.full();
        x.lose(0);
        x.lose(1);
        check.due("the house stays", x.many(0), 4);
        check.due("the meter stays", x.value(5), 99);
    }

    /** lose: "UNKNOWN." */
    private static void loseRefused() {
        Refusals full = new Refusals(check, "full", Made::full);
        for (int k : Made.NO_SHEETS) {
            full.unnamed("lose(" + k + ")", x -> x.lose(k), -1);
        }
        full.unnamed("lose(3)", x -> x.lose(3), 0);
    }

    /** "what comes to a cell of it is cut to its LANE (with its sign)": it wraps around. */
    private static void cutToItsLane() {
        int[] put = {127, 128, 129, 255, 256, 257, -128, -129, -130, -256, 32767, 32768, 32769, 65535, 65536, -32768, -32769, -65536, MAX, MIN};
        int[] bytes = {127, -128, -127, -1, 0, 1, -128, 127, 126, 0, -1, 0, 1, -1, 0, 0, -1, 0, -1, 0};
        int[] shorts = {127, 128, 129, 255, 256, 257, -128, -129, -130, -256, 32767, -32768, -32767, -1, 0, -32768, 32767, 0, -1, 0};
        for (int v = 0; v < put.length; v++) {
            LoadCycles x = new LoadCycles();
            int[] due = {bytes[v], shorts[v], put[v]};
            for (int lane : LANES) {
                x.sheet(lane, lane, 60);
                check.due("put " + put[v], x.put(lane, 59, put[v]), 1);
                check.due(put[v] + " in lane " + lane, x.cell(lane, 59, lane), due[lane]);
                check.due("its neighbour", x.cell(lane, 58, lane), 0);
            }
        }
        // What is cut counts, not what was put: 256 and 5 is 5 in a row of bytes.
        LoadCycles x = Check.of("u;P5", 0);
        Check.fill(x, 0, 0, 261);
        check.due("meter of 261", x.meter(0, 0, 0, 1), 1);
        check.due("value(0)", x.value(0), 5);
        Check.fill(x, 0, 1, 65541);
        check.due("meter of 65541", x.meter(0, 1, 0, 1), 1);
        Check.fill(x, 0, 1, 261);
        check.due("meter of 261 in shorts", x.meter(0, 1, 0, 1), -2);
        Check.fill(x, 0, 0, 200);
        check.due("meter of 200 in bytes", x.meter(0, 0, 0, 1), -2);
    }

    /** put: "Cell i of a SHEET becomes v: 1." */
    private static void putAtTheEndsOfARow() {
        LoadCycles x = new LoadCycles();
        Check.fill(x, 1, 2, 10, 11, 12);
        check.due("the first", x.put(1, 0, MIN), 1);
        check.due("the last", x.put(1, 2, MAX), 1);
        check.due("fault()", x.fault(), 0);
        check.due("cell 0", x.cell(1, 0, 2), MIN);
        check.due("cell 1", x.cell(1, 1, 2), 11);
        check.due("cell 2", x.cell(1, 2, 2), MAX);
    }

    /** put: "UNKNOWN; NULL; INDEX." */
    private static void putRefused() {
        Refusals full = new Refusals(check, "full", Made::full);
        for (int k : Made.NO_SHEETS) {
            full.named("put(" + k + ", 0, 1)", x -> x.put(k, 0, 1), -1, 0);
            full.named("put(" + k + ", -1, 1)", x -> x.put(k, -1, 1), -1, 0);
        }
        for (int i : new int[] {-1, 0, 60, MIN, MAX}) {
            full.named("put(3, " + i + ", 1)", x -> x.put(3, i, 1), -11, 1);
        }
        int[] lengths = {21, 20, 10};
        for (int k = 0; k < 3; k++) {
            int of = k;
            for (int i : new int[] {-1, lengths[k], 59, 60, MIN, MAX}) {
                full.named("put(" + k + ", " + i + ", 1)", x -> x.put(of, i, 1), -13, 3);
            }
        }
        new Refusals(check, "small", Made::small).named("put(2, 0, 1)", x -> x.put(2, 0, 1), -13, 3);
    }

    /** cell: "Cell i of what a SHEET has, taken as a row of a LANE." */
    private static void cellOfTheLaneThatItIs() {
        for (int lane : LANES) {
            LoadCycles x = new LoadCycles();
            Check.fill(x, 3, lane, -7, 8);
            for (int as : LANES) {
                check.due("the first", x.cell(3, 0, as), as == lane ? -7 : LOST);
                check.due("fault()", x.fault(), as == lane ? 0 : 2);
                check.due("the last", x.cell(3, 1, as), as == lane ? 8 : LOST);
            }
        }
    }

    /** cell: "LOST: UNKNOWN, OUTSIDE: lane; FAULTS CAST (nothing is no CAST), NULL, INDEX." */
    private static void cellRefused() {
        Refusals full = new Refusals(check, "full", Made::full);
        for (int k : Made.NO_SHEETS) {
            full.named("cell(" + k + ", 0, 0)", x -> x.cell(k, 0, 0), LOST, 0);
            full.named("cell(" + k + ", -1, 3)", x -> x.cell(k, -1, 3), LOST, 0);
        }
        for (int lane : Made.NO_LANES) {
            full.named("cell(0, 0, " + lane + ")", x -> x.cell(0, 0, lane), LOST, 0);
            full.named("cell(3, -1, " + lane + ")", x -> x.cell(3, -1, lane), LOST, 0);
        }
        int[] lengths = {21, 20, 10};
        int[] laneOf = {0, 2, 1};
        for (int lane : LANES) {
            for (int i : new int[] {-1, 0, 60, MIN, MAX}) {
                full.named("cell(3, " + i + ", " + lane + ")", x -> x.cell(3, i, lane), LOST, 1);
            }
            for (int k = 0; k < 3; k++) {
                int of = k;
                int fault = lane == laneOf[k] ? 3 : 2;
                for (int i : new int[] {-1, lengths[k], 59, 60, MIN, MAX}) {
                    full.named("cell(" + k + ", " + i + ", " + lane + ")", x -> x.cell(of, i, lane), LOST, fault);
                }
            }
        }
        new Refusals(check, "small", Made::small).named("cell(2, 0, 1)", x -> x.cell(2, 0, 1), LOST, 3);
    }

    private static void row(String name, LoadCycles x, int k, int lane, int... due) {
        for (int i = 0; i < due.length; i++) {
            check.due(name + ", cell " + i, x.cell(k, i, lane), due[i]);
        }
    }

    /** copy: "n cells of a SHEET from i on go to another one (perhaps the same) from j on, ..: n." */
    private static void copyOfNoneToAll() {
        for (int lane : LANES) {
            LoadCycles x = new LoadCycles();
            Check.fill(x, 0, lane, 1, 2, 3);
            Check.fill(x, 1, lane, 9, 8, 7, 6, 5);
            check.due("none", x.copy(0, 0, 1, 0, 0), 0);
            check.due("none at the ends", x.copy(0, 3, 1, 5, 0), 0);
            check.due("fault()", x.fault(), 0);
            row("none", x, 1, lane, 9, 8, 7, 6, 5);
            check.due("one, the last to the last", x.copy(0, 2, 1, 4, 1), 1);
            row("one", x, 1, lane, 9, 8, 7, 6, 3);
            check.due("all to the end", x.copy(0, 0, 1, 2, 3), 3);
            row("all", x, 1, lane, 9, 8, 1, 2, 3);
            row("the first sheet", x, 0, lane, 1, 2, 3);
            x.sheet(2, lane, 0);
            check.due("none of a row of none", x.copy(2, 0, 2, 0, 0), 0);
            check.due("none to a row of none", x.copy(0, 3, 2, 0, 0), 0);
        }
        LoadCycles x = new LoadCycles();
        x.sheet(0, 2, 60);
        x.sheet(1, 2, 60);
        for (int i = 0; i < 60; i++) {
            x.put(0, i, MAX - i);
        }
        check.due("sixty", x.copy(0, 0, 1, 0, 60), 60);
        for (int i = 0; i < 60; i++) {
            check.due("cell " + i + " of sixty", x.cell(1, i, 2), MAX - i);
        }
    }

    /** copy: "(perhaps the same) .. as they were". */
    private static void copyOfWhatWas() {
        for (int lane : LANES) {
            for (int shift = 0; shift <= 4; shift++) {
                LoadCycles x = new LoadCycles();
                int[] up = {1, 2, 3, 4};
                int[] down = {1, 2, 3, 4};
                for (int i = 0; i + shift < 4; i++) {
                    up[i + shift] = i + 1;
                    down[i] = i + shift + 1;
                }
                Check.fill(x, 3, lane, 1, 2, 3, 4);
                check.due("up by " + shift, x.copy(3, 0, 3, shift, 4 - shift), 4 - shift);
                row("up by " + shift, x, 3, lane, up);
                Check.fill(x, 3, lane, 1, 2, 3, 4);
                check.due("down by " + shift, x.copy(3, shift, 3, 0, 4 - shift), 4 - shift);
                row("down by " + shift, x, 3, lane, down);
            }
        }
    }

    /** copy: "UNKNOWN; FAULTS NULL (the first, the other), CAST (unlike LANES)", ahead of INDEX. */
    private static void copyRefused() {
        Refusals full = new Refusals(check, "full", Made::full);
        for (int k : Made.NO_SHEETS) {
            full.named("copy(" + k + ", 0, 0, 0, 1)", x -> x.copy(k, 0, 0, 0, 1), -1, 0);
            full.named("copy(0, 0, " + k + ", 0, 1)", x -> x.copy(0, 0, k, 0, 1), -1, 0);
            full.named("copy(" + k + ", -1, 3, -1, -1)", x -> x.copy(k, -1, 3, -1, -1), -1, 0);
            full.named("copy(3, -1, " + k + ", -1, -1)", x -> x.copy(3, -1, k, -1, -1), -1, 0);
        }
        for (int k = 0; k < 4; k++) {
            int of = k;
            full.named("copy(3, 0, " + k + ", 0, 0)", x -> x.copy(3, 0, of, 0, 0), -11, 1);
            full.named("copy(" + k + ", 0, 3, 0, 0)", x -> x.copy(of, 0, 3, 0, 0), -11, 1);
            full.named("copy(3, -1, " + k + ", -1, -1)", x -> x.copy(3, -1, of, -1, -1), -11, 1);
            full.named("copy(" + k + ", -1, 3, -1, -1)", x -> x.copy(of, -1, 3, -1, -1), -11, 1);
            for (int other = 0; other < 3; other++) {
                int to = other;
                if (k < 3 && k != other) {
                    full.named("copy(" + k + ", 0, " + other + ", 0, 1)", x -> x.copy(of, 0, to, 0, 1), -12, 2);
                    full.named("copy(" + k + ", 0, " + other + ", 0, 0)", x -> x.copy(of, 0, to, 0, 0), -12, 2);
                    full.named("copy(" + k + ", -1, " + other + ", -1, -1)", x -> x.copy(of, -1, to, -1, -1), -12, 2);
                }
            }
        }
    }

    /** copy: "INDEX: i, j, n below 0 or beyond." */
    private static void copyIndex() {
        Refusals r = new Refusals(check, "two rows", () -> {
            LoadCycles x = Made.small();
            Check.fill(x, 2, 1, 1, 2, 3, 4);
            Check.fill(x, 3, 1, 5, 6);
            return x;
        });
        int[][] wrongs = {{-1, 0, 1}, {0, -1, 1}, {0, 0, -1}, {-1, 0, 0}, {0, -1, 0}, {5, 0, 0}, {0, 3, 0}, {4, 0, 1}, {3, 0, 2},
            {0, 2, 1}, {0, 1, 2}, {0, 0, 3}, {0, 0, 5}, {MIN, 0, 1}, {0, MIN, 1}, {0, 0, MIN}, {MAX, 0, 1}, {0, MAX, 1}, {0, 0, MAX},
            {MAX, MAX, MAX}, {MIN, MIN, MIN}, {1, 0, MAX}, {0, 1, MAX}, {4, 2, -1}, {4, 2, -2}, {1, 1, -1}};
        for (int[] w : wrongs) {
            r.named("copy(2, " + w[0] + ", 3, " + w[1] + ", " + w[2] + ")", x -> x.copy(2, w[0], 3, w[1], w[2]), -13, 3);
        }
        r.named("copy(3, 0, 2, 0, 3)", x -> x.copy(3, 0, 2, 0, 3), -13, 3);
        r.named("copy(3, 0, 2, 3, 2)", x -> x.copy(3, 0, 2, 3, 2), -13, 3);
        r.named("copy(2, 0, 2, 1, 4)", x -> x.copy(2, 0, 2, 1, 4), -13, 3);
        r.named("copy(2, 1, 2, 0, 4)", x -> x.copy(2, 1, 2, 0, 4), -13, 3);
    }

    /** "PLAIN (1): how many LEVELS it has. HEAVY (2): what PLAIN's gives, and 100. DOUBLE (3): .. (HEAVY's left out)." */
    private static void tellings() {
        String[] levels = {"9", "91", "919"};
        for (int n = 1; n <= 3; n++) {
            LoadCycles x = new LoadCycles();
            Check.house(x, "u;P" + levels[n - 1] + ";H" + levels[n - 1] + ";D" + levels[n - 1]);
            check.due("PLAIN", x.tell(0), n);
            check.due("its trace", x.trace(), 1);
            check.due("HEAVY", x.tell(1), n + 100);
            check.due("its trace", x.trace(), (1 * 31 + 2) * 31 + 1);
            int trace = x.trace();
            check.due("DOUBLE", x.tell(2), 2 * n + 100);
            check.due("its trace", x.trace(), (((trace * 31 + 3) * 31 + 2) * 31 + 1) * 31 + 1);
        }
    }

    /** "METERED by a lent body (4): its LEVELS as told together; DOUBLE ones have their own (5): 90." */
    private static void meterings() {
        LoadCycles x = new LoadCycles();
        Check.house(x, "u;P1;H999;D1;D999");
        check.due("the least", x.metered(0), 1);
        check.due("its trace", x.trace(), 4);
        check.due("the most", x.metered(1), 27);
        check.due("its trace", x.trace(), 4 * 31 + 4);
        check.due("a DOUBLE one of the least", x.metered(2), 90);
        check.due("its trace", x.trace(), (4 * 31 + 4) * 31 + 5);
        check.due("a DOUBLE one of the most", x.metered(3), 90);
        x.level(1, 2, 1);
        check.due("as told now", x.metered(1), 19);
    }

    /** "TRACE (an int that wraps, 0 at first, becomes 31 times it and the number)". */
    private static void traceWraps() {
        LoadCycles x = new LoadCycles();
        Check.house(x, "u;P1;D1");
        int trace = 0;
        for (int bodies = 1; bodies <= 40; bodies++) {
            check.due("metered", x.metered(1), 90);
            trace = 31 * trace + 5;
            check.due("trace of " + bodies, x.trace(), trace);
        }
        // Seven times 1 is (31 to the 7th, less 1) by 30: the last one below 2 to the 31st.
        x = new LoadCycles();
        Check.house(x, "u;P1");
        for (int bodies = 0; bodies < 7; bodies++) {
            x.tell(0);
        }
        check.due("seven times 1", x.trace(), 917087137);
        x.tell(0);
        check.due("eight times 1", x.trace(), 28429701248L - 7 * (1L << 32));
    }

    /** tell, metered: "UNKNOWN." */
    private static void tellAndMeteredRefused() {
        Refusals full = new Refusals(check, "full", Made::full);
        Refusals small = new Refusals(check, "small", Made::small);
        Refusals houseless = new Refusals(check, "houseless", Made::houseless);
        for (int a : new int[] {-1, 4, MIN, MAX}) {
            full.unnamed("tell(" + a + ")", x -> x.tell(a), -1);
            full.unnamed("metered(" + a + ")", x -> x.metered(a), -1);
        }
        small.unnamed("tell(2)", x -> x.tell(2), -1);
        small.unnamed("metered(2)", x -> x.metered(2), -1);
        houseless.unnamed("tell(0)", x -> x.tell(0), -1);
        houseless.unnamed("metered(0)", x -> x.metered(0), -1);
    }

    /** as: "An APPLIANCE, taken as one of a kind: 1. .. CAST: it is none (each is a PLAIN one, too; a DOUBLE one is a HEAVY one)." */
    private static void asKinds() {
        int[][] due = {{1, -12, -12}, {1, 1, -12}, {1, 1, 1}};
        Refusals r = new Refusals(check, "one of each kind", () -> Check.of("u;P5;H5;D5", 0, 5, 9));
        for (int a = 0; a < 3; a++) {
            for (int kind = 0; kind < 3; kind++) {
                int of = a;
                int as = kind;
                r.named("as(" + a + ", " + kind + ")", x -> x.as(of, as), due[a][kind], due[a][kind] == 1 ? 0 : 2);
            }
        }
    }

    /** as: "UNKNOWN; OUTSIDE", ahead of CAST. */
    private static void asRefused() {
        Refusals full = new Refusals(check, "full", Made::full);
        Refusals small = new Refusals(check, "small", Made::small);
        for (int a : new int[] {-1, 4, MIN, MAX}) {
            full.named("as(" + a + ", 0)", x -> x.as(a, 0), -1, 0);
            full.named("as(" + a + ", 3)", x -> x.as(a, 3), -1, 0);
        }
        for (int kind : new int[] {-1, 3, MIN, MAX}) {
            full.named("as(0, " + kind + ")", x -> x.as(0, kind), -2, 0);
            full.named("as(2, " + kind + ")", x -> x.as(2, kind), -2, 0);
            small.named("as(2, " + kind + ")", x -> x.as(2, kind), -1, 0);
        }
        small.named("as(2, 2)", x -> x.as(2, 2), -1, 0);
    }

    /** fault: "(0 ahead of any)". */
    private static void faultAheadOfAny() {
        LoadCycles x = new LoadCycles();
        check.due("new", x.fault(), 0);
        x.value(0);
        x.many(9);
        x.lose(9);
        x.odds(0, 0);
        check.due("after refusals of calls that name none", x.fault(), 0);
        x.put(0, 0, 0);
        check.due("after one that names one", x.fault(), 1);
        check.due("asked again", x.fault(), 1);
    }

    /** fault: "The FAULT of the latest call that names one: 0: it came to none, or was refused". */
    private static void faultOfTheLatestCallThatNamesOne() {
        LoadCycles x = Made.small();
        check.due("INDEX", x.put(0, 99, 0), -13);
        check.due("CAST", x.as(0, 1), -12);
        check.due("the latest", x.fault(), 2);
        check.due("NULL", x.put(3, 0, 0), -11);
        check.due("the latest", x.fault(), 1);
        check.due("SIZE", x.sheet(3, 0, -1), -14);
        check.due("the latest", x.fault(), 4);
        check.due("none", x.as(0, 0), 1);
        check.due("it came to none", x.fault(), 0);
        x.sheet(3, 0, -1);
        check.due("refused", x.as(9, 0), -1);
        check.due("it was refused", x.fault(), 0);
        x.sheet(3, 0, -1);
        check.due("a call that names none", x.level(0, 0, 9), 5);
        check.due("the one ahead of it", x.fault(), 4);
        // Each call that names one ends an earlier fault by going well.
        for (int call = 0; call < 8; call++) {
            LoadCycles y = Made.full();
            y.sheet(0, 0, -1);
            check.due("call " + call + " goes well", goesWell(y, call) >= 0 ? 1 : 0, 1);
            check.due("fault() then", y.fault(), 0);
        }
    }

    private static long goesWell(LoadCycles y, int call) {
        switch (call) {
            case 0: return y.house(0, 0, 0, 21);
            case 1: return y.meter(1, 2, 0, 20);
            case 2: return y.day(2, 1, 0, 1, 0);
            case 3: return y.sheet(3, 0, 60);
            case 4: return y.put(2, 0, 0);
            case 5: return y.cell(2, 0, 1);
            case 6: return y.copy(1, 0, 1, 1, 19);
            default: return y.as(2, 2);
        }
    }

    /** many: "How many: 0 APPLIANCES, 1 TIMES, 2 all LEVELS, 3 the BASE, 4 READINGS (0 all without a HOUSE)." */
    private static void manyAtTheirEdges() {
        int[][] due = {{4, 20, 12, 2, 8}, {2, 3, 3, 1, 1}, {1, 0, 1, 1, 1}, {0, 0, 0, 0, 0}};
        LoadCycles[] made = {Made.full(), Made.small(), Made.timeless(), Made.houseless()};
        for (int m = 0; m < made.length; m++) {
            for (int what = 0; what < 5; what++) {
                check.due("many(" + what + ") of " + m, made[m].many(what), due[m][what]);
            }
        }
    }

    /** many: "OUTSIDE." */
    private static void manyRefused() {
        Refusals full = new Refusals(check, "full", Made::full);
        Refusals houseless = new Refusals(check, "houseless", Made::houseless);
        for (int what : new int[] {-1, 5, MIN, MAX}) {
            full.unnamed("many(" + what + ")", x -> x.many(what), -2);
            houseless.unnamed("many(" + what + ")", x -> x.many(what), -2);
        }
    }

    /** "An object is used for at most 512 calls after it has been made": the last one is as good as the first. */
    private static void fiveHundredAndTwelveCalls() {
        LoadCycles x = new LoadCycles();
        Check.house(x, "u;P5"); // 6 calls
        Check.meter(x, 5, 0, 5); // 5 calls
        for (int call = 12; call < 511; call++) {
            int v = 1 + call % 9;
            if (call % 2 == 0) {
                x.level(0, 0, v);
            } else {
                check.due("call " + call, x.energy(0), (1 + (call - 1) % 9) <= 5 ? 2 * (1 + (call - 1) % 9) : 0);
            }
        }
        check.due("call 511", x.level(0, 0, 5), 1 + 510 % 9);
        check.due("call 512", x.energy(0), 10);
    }
}
