/** The edges of part 1 and of promises 1 to 7; above each test stand the document's words that it is of. */
public final class HouseEdgesTest {
    private static final int MIN = Made.MIN, MAX = Made.MAX;
    private static final long LOST = Made.LOST;
    private static final Check check = new Check();

    public static void main(String[] args) {
        newObjectHasNothing();
        oneToFourAppliances();
        oneToThreeLevels();
        digitsOneToNine();
        codesAtEachPlace();
        codesOfWiderLanes();
        endsTooSoon();
        placeIsToldFromTheTextsBegin();
        takenTextMakesAllAnew();
        refusedTextChangesNothing();
        powersAtTheirEdges();
        houseFromAnyCellOn();
        houseUnknown();
        houseOutside();
        houseCastAndNull();
        houseSizeAndIndex();
        ofApplianceNone();
        ofApplianceRefused();
        levelAtItsEdges();
        levelRefused();
        meterOfNoneToTwenty();
        meterValuesAtTheirEdges();
        meterUnknownAndOutside();
        meterFaults();
        meterStateAndCells();
        valueUnknown();
        baseAtItsEdges();
        baseRefused();
        check.end();
    }

    /** "No HOUSE (no APPLIANCES), the METER is empty, the BASE 0, SHEETS have nothing." */
    private static void newObjectHasNothing() {
        Refusals r = new Refusals(check, "new", LoadCycles::new);
        r.named("house(0, 0, 0, 0)", x -> x.house(0, 0, 0, 0), -11, 1);
        r.unnamed("ofAppliance(0, 0)", x -> x.ofAppliance(0, 0), -1);
        r.unnamed("level(0, 0, 1)", x -> x.level(0, 0, 1), -1);
        r.named("meter(0, 0, 0, 0)", x -> x.meter(0, 0, 0, 0), -11, 1);
        r.unnamed("value(0)", x -> x.value(0), -1);
        r.unnamed("base(0)", x -> x.base(0), -3);
        r.unnamed("at(0, 0)", x -> x.at(0, 0), -1);
        r.unnamed("rest(0)", x -> x.rest(0), -1);
        for (int what = 0; what < 4; what++) {
            int asked = what;
            r.unnamed("best(" + what + ")", x -> x.best(asked), -3);
        }
        r.unnamed("energy(0)", x -> x.energy(0), -1);
        r.named("day(0, 0, 0, 0, 0)", x -> x.day(0, 0, 0, 0, 0), -11, 1);
        r.unnamed("jump(0)", x -> x.jump(0), -1);
        r.unnamed("ways(0)", x -> x.ways(0), -1);
        r.unnamed("longest(0)", x -> x.longest(0), -1);
        r.unnamed("share(0)", x -> x.share(0), -1);
        r.unnamed("mean()", x -> x.mean(), LOST);
        r.unnamed("reading(0, 0)", x -> x.reading(0, 0), -1);
        r.unnamed("back(0)", x -> x.back(0), 0);
        r.unnamed("back(1)", x -> x.back(1), -2);
        r.unnamed("kinds(0)", x -> x.kinds(0), -1);
        r.unnamed("firsts(0)", x -> x.firsts(0), -1);
        r.unnamed("odds(0, 0)", x -> x.odds(0, 0), LOST);
        r.unnamed("tell(0)", x -> x.tell(0), -1);
        r.unnamed("metered(0)", x -> x.metered(0), -1);
        r.named("as(0, 0)", x -> x.as(0, 0), -1, 0);
        r.unnamed("trace()", x -> x.trace(), 0);
        for (int k = 0; k < 4; k++) {
            int of = k;
            r.unnamed("lose(" + k + ")", x -> x.lose(of), 0);
            r.named("put(" + k + ", 0, 0)", x -> x.put(of, 0, 0), -11, 1);
            r.named("cell(" + k + ", 0, 0)", x -> x.cell(of, 0, 0), LOST, 1);
            r.named("copy(" + k + ", 0, " + k + ", 0, 0)", x -> x.copy(of, 0, of, 0, 0), -11, 1);
        }
        for (int what = 0; what < 5; what++) {
            int asked = what;
            r.unnamed("many(" + what + ")", x -> x.many(asked), 0);
        }
        check.due("new fault()", new LoadCycles().fault(), 0);
    }

    private static int taken(String text) {
        return Check.house(new LoadCycles(), text);
    }

    /** "u, then 1 to 4 APPLIANCES"; "(.. the ; of a fifth APPLIANCE)". */
    private static void oneToFourAppliances() {
        StringBuilder text = new StringBuilder("u");
        check.due("no appliance", taken(text.toString()), -101);
        for (int n = 1; n <= 4; n++) {
            text.append(";H12");
            check.due(n + " appliances", taken(text.toString()), n);
        }
        check.due("the ; of a fifth", taken(text + ";"), -117);
        check.due("a fifth", taken(text + ";H1"), -117);
    }

    /** "1 to 3 digits 1 .. 9 (its LEVELS ..)"; "(a fourth LEVEL of one ..)". */
    private static void oneToThreeLevels() {
        String ahead = "u";
        for (int a = 0; a < 4; a++) {
            for (char kind : new char[] {'P', 'H', 'D'}) {
                String begin = ahead + ';' + kind;
                int place = begin.length();
                check.due(begin, taken(begin), -100 - place);
                check.due(begin + ';', taken(begin + ';'), -100 - place);
                check.due(begin + '1', taken(begin + '1'), a + 1);
                check.due(begin + "12", taken(begin + "12"), a + 1);
                check.due(begin + "123", taken(begin + "123"), a + 1);
                check.due(begin + "1234", taken(begin + "1234"), -103 - place);
                LoadCycles x = new LoadCycles();
                Check.house(x, begin + "123");
                check.due("levels of " + begin + "123", x.ofAppliance(a, 1), 3);
            }
            ahead = ahead + ";P987".substring(0, 3 + a % 3);
        }
    }

    /** "(Codes: .. digits 49 .. 57.)" */
    private static void digitsOneToNine() {
        for (int v = 1; v <= 9; v++) {
            LoadCycles x = new LoadCycles();
            check.due("digit " + v, Check.house(x, "u;P" + v + (10 - v)), 1);
            check.due("LEVEL 0", x.ofAppliance(0, 10), v);
            check.due("LEVEL 1", x.ofAppliance(0, 11), 10 - v);
        }
        check.due("digit 0", taken("u;P0"), -103);
        check.due("code 58", taken("u;P:"), -103);
        check.due("a second digit 0", taken("u;P10"), -104);
        check.due("a third code 58", taken("u;P12:"), -105);
    }

    /** "(Codes: u 117, the kinds' P 80, H 72, D 68, ; 59, digits 49 .. 57.)": at each place just these. */
    private static void codesAtEachPlace() {
        String digits = "123456789";
        codesAt("", "u");
        codesAt("u", ";");
        codesAt("u;", "PHD");
        codesAt("u;P", digits);
        codesAt("u;P1", digits + ";");
        codesAt("u;P12", digits + ";");
        codesAt("u;P123", ";");
        codesAt("u;P123;", "PHD");
        codesAt("u;P1;H1;D1;P", digits);
        codesAt("u;P1;H1;D1;P1", digits);
        codesAt("u;P1;H1;D1;P12", digits);
        codesAt("u;P1;H1;D1;P123", "");
    }

    private static void codesAt(String begin, String goOn) {
        int place = begin.length();
        LoadCycles x = new LoadCycles();
        for (int code = -128; code < 128; code++) {
            if ((code & 31) == 0) {
                x = new LoadCycles();
                Check.fill(x, 0, 0, (begin + "?").chars().toArray());
            }
            boolean goesOn = code > 0 && goOn.indexOf(code) >= 0;
            int appliances = begin.length() - begin.replace(";", "").length();
            int ended = code > '0' && code <= '9' ? appliances : -101 - place;
            check.due("put", x.put(0, place, code), 1);
            check.due("code " + code + " behind " + begin, x.house(0, 0, 0, place + 1), goesOn ? ended : -100 - place);
        }
    }

    /** A code of a wider row is no other one by its lower bits: it is cut by the row's LANE alone. */
    private static void codesOfWiderLanes() {
        int[] codes = "u;P1".chars().toArray();
        for (int place = 0; place < codes.length; place++) {
            for (int more : new int[] {256, -256, 512, 65536, MIN}) {
                for (int lane = 0; lane < 3; lane++) {
                    int[] cells = codes.clone();
                    cells[place] += more;
                    LoadCycles x = new LoadCycles();
                    Check.fill(x, 0, lane, cells);
                    boolean isCut = lane == 0 || (lane == 1 && (short) more == 0);
                    String name = "lane " + lane + ", code " + cells[place] + " at " + place;
                    check.due(name, x.house(0, lane, 0, 4), isCut ? 1 : -100 - place);
                }
            }
        }
    }

    /** "how many codes there are, if it just ends too soon." */
    private static void endsTooSoon() {
        String whole = "u;P1;H23;D456;P987";
        int appliances = 0;
        for (int n = 0; n <= whole.length(); n++) {
            char last = n == 0 ? ' ' : whole.charAt(n - 1);
            appliances += last == ';' ? 1 : 0;
            boolean isWhole = last >= '1' && last <= '9';
            LoadCycles x = new LoadCycles();
            Check.fill(x, 0, 1, whole.chars().toArray());
            check.due("the first " + n + " codes", x.house(0, 1, 0, n), isWhole ? appliances : -100 - n);
            check.due("fault()", x.fault(), 0);
            check.due("appliances then", x.many(0), isWhole ? appliances : 0);
        }
    }

    /** "FIRST FAULT: the place (from 0 on) of the first code ..": a place of the TEXT, not of the row. */
    private static void placeIsToldFromTheTextsBegin() {
        for (int i = 0; i < 50; i += 7) {
            LoadCycles x = new LoadCycles();
            x.sheet(0, 2, 60);
            String text = "u;P1;X";
            for (int p = 0; p < text.length(); p++) {
                x.put(0, i + p, text.charAt(p));
            }
            check.due("from " + i, x.house(0, 2, i, 6), -105);
            check.due("from " + i + ", too soon", x.house(0, 2, i, 5), -105);
            check.due("from " + i + ", too soon for a level", x.house(0, 2, i, 3), -103);
            check.due("from " + i + ", whole", x.house(0, 2, i, 4), 1);
        }
    }

    /** "A TEXT that is taken makes all anew, but for the SHEETS and TRACE: the METER is empty, the BASE 0, no READINGS." */
    private static void takenTextMakesAllAnew() {
        LoadCycles x = Made.full();
        int trace = x.trace();
        check.due("the same text", x.house(0, 0, 0, 21), 4);
        check.due("fault()", x.fault(), 0);
        int[] many = {4, 0, 12, 0, 0};
        for (int what = 0; what < 5; what++) {
            check.due("many(" + what + ") anew", x.many(what), many[what]);
        }
        check.due("trace() stays", x.trace(), trace);
        check.due("the text's sheet stays", x.cell(0, 20, 0), '1');
        check.due("the meter's sheet stays", x.cell(1, 19, 2), 11);
        check.due("another sheet stays", x.cell(2, 9, 1), -300);
        check.due("nothing stays nothing", x.lose(3), 0);
        check.due("value(0)", x.value(0), -1);
        check.due("mean()", x.mean(), LOST);
        check.due("best(1)", x.best(1), 0);
        check.due("energy(3)", x.energy(3), 0);
        check.due("kinds(0)", x.kinds(0), 7);
        check.due("base(0)", x.base(0), 0);
        check.due("reading(0, 0)", x.reading(0, 0), 0);
        x = Made.full();
        x.level(0, 0, 9);
        x.house(0, 0, 0, 21);
        check.due("a level that was told anew", x.ofAppliance(0, 10), 1);
        x = Made.full();
        Check.house(x, "u;D6");
        check.due("a house of fewer", x.many(0) * 10 + x.many(2), 11);
        check.due("no second one", x.ofAppliance(1, 0), -1);
        check.due("its second level", x.ofAppliance(0, 11), -9);
        Check.house(x, FULL_OF_HEAVY);
        check.due("a house of more", x.many(0) * 100 + x.many(2), 412);
        check.due("its last level", x.ofAppliance(3, 12), 8);
        check.due("its last kind", x.ofAppliance(3, 0), 1);
    }

    private static final String FULL_OF_HEAVY = "u;H111;H222;H333;H448";

    /** A TEXT that is not taken is no TEXT: nothing is changed, and it comes to no FAULT of the machine. */
    private static void refusedTextChangesNothing() {
        String[] texts = {"", "u", "u;", "u;H", "u;H9;D8;P7;H6;", "u;H999;D888;P777;H6666", "u;H9;D8;P0"};
        int[] places = {0, 1, 2, 3, 13, 21, 9};
        for (int w = 0; w < texts.length; w++) {
            String text = texts[w];
            Refusals r = new Refusals(check, "a text that is not taken", () -> {
                LoadCycles x = Made.full();
                Check.fill(x, 3, 0, text.chars().toArray());
                return x;
            });
            r.named(text, x -> x.house(3, 0, 0, text.length()), -100 - places[w], 0);
        }
    }

    /** "POWER of a LEVEL: of a PLAIN APPLIANCE as told; of a HEAVY one 1 more; of a DOUBLE one twice what a PLAIN one's is." */
    private static void powersAtTheirEdges() {
        LoadCycles x = new LoadCycles();
        Check.house(x, "u;P191;H191;D191");
        int[][] powers = {{1, 9, 1}, {2, 10, 2}, {2, 18, 2}};
        for (int a = 0; a < 3; a++) {
            for (int k = 0; k < 3; k++) {
                check.due("power " + k + " of " + a, x.ofAppliance(a, 20 + k), powers[a][k]);
                check.due("level " + k + " of " + a, x.ofAppliance(a, 10 + k), k == 1 ? 9 : 1);
            }
        }
    }

    /** "A HOUSE by a TEXT of n cells of a SHEET from i on, taken as a row of a LANE": up to the row's last cell. */
    private static void houseFromAnyCellOn() {
        for (int lane = 0; lane < 3; lane++) {
            for (int i : new int[] {0, 1, 38, 39}) {
                LoadCycles x = new LoadCycles();
                x.sheet(3, lane, 60);
                for (int p = 0; p < 21; p++) {
                    x.put(3, i + p, Made.FULL_TEXT.charAt(p));
                }
                check.due("lane " + lane + " from " + i, x.house(3, lane, i, 21), 4);
                check.due("levels", x.many(2), 12);
            }
        }
    }

    /** house: "UNKNOWN", ahead of all else. */
    private static void houseUnknown() {
        Refusals full = new Refusals(check, "full", Made::full);
        for (int k : Made.NO_SHEETS) {
            full.named("house(" + k + ", 0, 0, 21)", x -> x.house(k, 0, 0, 21), -1, 0);
            full.named("house(" + k + ", 3, -1, -1)", x -> x.house(k, 3, -1, -1), -1, 0);
        }
    }

    /** house: "OUTSIDE: lane", ahead of all FAULTS. */
    private static void houseOutside() {
        Refusals full = new Refusals(check, "full", Made::full);
        for (int lane : Made.NO_LANES) {
            full.named("house(0, " + lane + ", 0, 21)", x -> x.house(0, lane, 0, 21), -2, 0);
            full.named("house(3, " + lane + ", -1, -1)", x -> x.house(3, lane, -1, -1), -2, 0);
        }
    }

    /** house: "FAULTS CAST (nothing is no CAST), NULL", ahead of SIZE and INDEX. */
    private static void houseCastAndNull() {
        Refusals full = new Refusals(check, "full", Made::full);
        for (int lane = 0; lane < 3; lane++) {
            int as = lane;
            full.named("house(3, " + lane + ", 0, 0)", x -> x.house(3, as, 0, 0), -11, 1);
            full.named("house(3, " + lane + ", -1, -1)", x -> x.house(3, as, -1, -1), -11, 1);
            if (lane != 0) {
                full.named("house(0, " + lane + ", 0, 21)", x -> x.house(0, as, 0, 21), -12, 2);
                full.named("house(0, " + lane + ", 0, 0)", x -> x.house(0, as, 0, 0), -12, 2);
                full.named("house(0, " + lane + ", -1, -1)", x -> x.house(0, as, -1, -1), -12, 2);
                full.named("house(0, " + lane + ", 22, 0)", x -> x.house(0, as, 22, 0), -12, 2);
            }
        }
    }

    /** house: "SIZE: n is below 0, INDEX: not all cells are there"; a TEXT is read behind both. */
    private static void houseSizeAndIndex() {
        Refusals full = new Refusals(check, "full", Made::full);
        for (int n : new int[] {-1, -2, MIN}) {
            for (int i : new int[] {0, -1, 22, MAX, MIN}) {
                full.named("house(0, 0, " + i + ", " + n + ")", x -> x.house(0, 0, i, n), -14, 4);
            }
        }
        int[][] beyond = {{0, 22}, {1, 21}, {20, 2}, {21, 1}, {22, 0}, {-1, 0}, {-1, 21}, {MIN, 0}, {MAX, 0}, {0, MAX}, {1, MAX},
            {MAX, MAX}, {MIN, MAX}, {MAX, 1}};
        for (int[] c : beyond) {
            full.named("house(0, 0, " + c[0] + ", " + c[1] + ")", x -> x.house(0, 0, c[0], c[1]), -13, 3);
        }
        full.named("house(0, 0, 21, 0)", x -> x.house(0, 0, 21, 0), -100, 0);
        Refusals small = new Refusals(check, "small", Made::small);
        small.named("house(2, 1, 0, 0)", x -> x.house(2, 1, 0, 0), -100, 0);
        small.named("house(2, 1, 1, 0)", x -> x.house(2, 1, 1, 0), -13, 3);
        small.named("house(2, 1, -1, 0)", x -> x.house(2, 1, -1, 0), -13, 3);
        small.named("house(2, 1, 0, 1)", x -> x.house(2, 1, 0, 1), -13, 3);
    }

    /** ofAppliance: "(NONE: it has not so many)". */
    private static void ofApplianceNone() {
        LoadCycles x = new LoadCycles();
        Check.house(x, "u;P4;H45;D456");
        for (int a = 0; a < 3; a++) {
            check.due("how many", x.ofAppliance(a, 1), a + 1);
            for (int k = 0; k < 3; k++) {
                int power = a == 0 ? 4 + k : a == 1 ? 5 + k : 2 * (4 + k);
                check.due("level " + k + " of " + a, x.ofAppliance(a, 10 + k), k <= a ? 4 + k : -9);
                check.due("power " + k + " of " + a, x.ofAppliance(a, 20 + k), k <= a ? power : -9);
            }
        }
    }

    /** ofAppliance: "UNKNOWN; OUTSIDE: what (0, 1, 10 .. 12, 20 .. 22)." */
    private static void ofApplianceRefused() {
        Refusals full = new Refusals(check, "full", Made::full);
        Refusals small = new Refusals(check, "small", Made::small);
        for (int what : new int[] {-1, 2, 9, 13, 19, 23, MIN, MAX}) {
            full.unnamed("ofAppliance(3, " + what + ")", x -> x.ofAppliance(3, what), -2);
            small.unnamed("ofAppliance(2, " + what + ")", x -> x.ofAppliance(2, what), -1);
        }
        for (int a : new int[] {-1, 4, MIN, MAX}) {
            full.unnamed("ofAppliance(" + a + ", 0)", x -> x.ofAppliance(a, 0), -1);
            small.unnamed("ofAppliance(" + a + ", 22)", x -> x.ofAppliance(a, 22), -1);
        }
        small.unnamed("ofAppliance(2, 1)", x -> x.ofAppliance(2, 1), -1);
    }

    /** level: "LEVEL k of an APPLIANCE becomes v (1 .. 9): what it was." */
    private static void levelAtItsEdges() {
        LoadCycles x = Made.full();
        int[][] was = {{1, 2, 3}, {4, 5, 6}, {7, 8, 9}, {1, 9, 1}};
        for (int a = 0; a < 4; a++) {
            for (int k = 0; k < 3; k++) {
                check.due("level(" + a + ", " + k + ", 9)", x.level(a, k, 9), was[a][k]);
                check.due("level(" + a + ", " + k + ", 1)", x.level(a, k, 1), 9);
                check.due("told", x.ofAppliance(a, 10 + k), 1);
                check.due("level(" + a + ", " + k + ", 1) again", x.level(a, k, 1), 1);
            }
        }
        check.due("all levels", x.many(2), 12);
        check.due("readings stay", x.many(4), 8);
        check.due("times stay", x.many(1), 20);
        // The meter shows just the power that the level has now.
        LoadCycles y = Check.of("u;P9", 0, 8);
        check.due("energy with 9", y.energy(0), 0);
        y.level(0, 0, 8);
        check.due("energy with 8", y.energy(0), 8);
        y.level(0, 0, 1);
        check.due("energy with 1", y.energy(0), 1);
    }

    /** level: "UNKNOWN: APPLIANCE, LEVEL; OUTSIDE." */
    private static void levelRefused() {
        Refusals full = new Refusals(check, "full", Made::full);
        Refusals small = new Refusals(check, "small", Made::small);
        for (int v : new int[] {0, 10, -1, MIN, MAX}) {
            full.unnamed("level(3, 2, " + v + ")", x -> x.level(3, 2, v), -2);
            small.unnamed("level(0, 0, " + v + ")", x -> x.level(0, 0, v), -2);
            small.unnamed("level(0, 1, " + v + ")", x -> x.level(0, 1, v), -1);
            small.unnamed("level(2, 0, " + v + ")", x -> x.level(2, 0, v), -1);
        }
        for (int none : new int[] {-1, 4, MIN, MAX}) {
            full.unnamed("level(" + none + ", 0, 1)", x -> x.level(none, 0, 1), -1);
            full.unnamed("level(0, " + (none == 4 ? 3 : none) + ", 1)", x -> x.level(0, none == 4 ? 3 : none, 1), -1);
        }
        small.unnamed("level(1, 2, 5)", x -> x.level(1, 2, 5), -1);
        small.unnamed("level(1, -1, 5)", x -> x.level(1, -1, 5), -1);
        small.unnamed("level(0, 3, 5)", x -> x.level(0, 3, 5), -1);
    }

    /** "The METER is a row of 0 to 20 VALUES"; meter: "The METER becomes n cells of a SHEET from i on: n." */
    private static void meterOfNoneToTwenty() {
        for (int lane = 0; lane < 3; lane++) {
            LoadCycles x = new LoadCycles();
            Check.house(x, "u;P9");
            x.sheet(3, lane, 60);
            for (int i = 0; i < 60; i++) {
                x.put(3, i, 30 + i);
            }
            for (int n : new int[] {20, 1, 0, 19, 0}) {
                for (int i : new int[] {0, 60 - n}) {
                    check.due("meter(3, " + lane + ", " + i + ", " + n + ")", x.meter(3, lane, i, n), n);
                    check.due("fault()", x.fault(), 0);
                    check.due("times", x.many(1), n);
                    check.due("the last value", x.value(n - 1), n == 0 ? -1 : 29 + i + n);
                    check.due("the first value", x.value(0), n == 0 ? -1 : 30 + i);
                    check.due("beyond the last", x.value(n), -1);
                    check.due("energy", x.energy(0), 9 * n);
                }
            }
        }
        // The meter keeps its values when its sheet gets others.
        LoadCycles x = Check.of("u;P9", 0, 5, 6);
        x.put(1, 0, 50);
        check.due("value(0) stays", x.value(0), 5);
        x.lose(1);
        check.due("value(1) stays", x.value(1), 6);
    }

    /** "VALUES 0 .. 99 ..; none is less than the BASE." */
    private static void meterValuesAtTheirEdges() {
        LoadCycles x = new LoadCycles();
        Check.house(x, "u;P9");
        check.due("0 and 99", Check.meter(x, 0, 99), 2);
        check.due("100", Check.meter(x, 0, 100), -2);
        check.due("-1", Check.meter(x, -1, 99), -2);
        check.due("MAX", Check.meter(x, MAX), -2);
        check.due("MIN", Check.meter(x, MIN), -2);
        check.due("what was", x.value(1), 99);
        check.due("none", Check.meter(x), 0);
        for (int base : new int[] {1, 50, 98, 99}) {
            check.due("meter of none", Check.meter(x), 0);
            x.base(base);
            check.due("the base " + base, Check.meter(x, base, 99, base), 3);
            check.due("below the base " + base, Check.meter(x, 99, 99, base - 1), -2);
            check.due("the base stays", x.many(3), base);
        }
    }

    /** meter: "UNKNOWN: SHEET; OUTSIDE: lane, n (0 .. 20)", ahead of FAULTS and STATE. */
    private static void meterUnknownAndOutside() {
        Refusals full = new Refusals(check, "full", Made::full);
        Refusals houseless = new Refusals(check, "houseless", Made::houseless);
        for (int k : Made.NO_SHEETS) {
            full.named("meter(" + k + ", 2, 0, 1)", x -> x.meter(k, 2, 0, 1), -1, 0);
            houseless.named("meter(" + k + ", 3, -1, 21)", x -> x.meter(k, 3, -1, 21), -1, 0);
        }
        for (int lane : Made.NO_LANES) {
            full.named("meter(1, " + lane + ", 0, 1)", x -> x.meter(1, lane, 0, 1), -2, 0);
            houseless.named("meter(3, " + lane + ", -1, 1)", x -> x.meter(3, lane, -1, 1), -2, 0);
        }
        for (int n : new int[] {-1, 21, 60, MIN, MAX}) {
            full.named("meter(1, 2, 0, " + n + ")", x -> x.meter(1, 2, 0, n), -2, 0);
            full.named("meter(1, 0, 0, " + n + ")", x -> x.meter(1, 0, 0, n), -2, 0);
            houseless.named("meter(3, 2, -1, " + n + ")", x -> x.meter(3, 2, -1, n), -2, 0);
        }
    }

    /** meter: "FAULTS CAST, NULL, INDEX", ahead of "STATE: there is no HOUSE". */
    private static void meterFaults() {
        for (Refusals r : new Refusals[] {new Refusals(check, "timeless", Made::timeless), new Refusals(check, "houseless", Made::houseless)}) {
            int[] lanes = {0, 1};
            for (int lane : lanes) {
                r.named("meter(1, " + lane + ", 0, 1)", x -> x.meter(1, lane, 0, 1), -12, 2);
                r.named("meter(1, " + lane + ", 0, 0)", x -> x.meter(1, lane, 0, 0), -12, 2);
                r.named("meter(1, " + lane + ", -1, 20)", x -> x.meter(1, lane, -1, 20), -12, 2);
                r.named("meter(3, " + lane + ", 0, 0)", x -> x.meter(3, lane, 0, 0), -11, 1);
            }
            r.named("meter(3, 2, -1, 20)", x -> x.meter(3, 2, -1, 20), -11, 1);
            for (int i : new int[] {-1, 6, MIN, MAX}) {
                r.named("meter(1, 2, " + i + ", 0)", x -> x.meter(1, 2, i, 0), -13, 3);
                r.named("meter(1, 2, " + i + ", 20)", x -> x.meter(1, 2, i, 20), -13, 3);
            }
            r.named("meter(1, 2, 0, 6)", x -> x.meter(1, 2, 0, 6), -13, 3);
            r.named("meter(1, 2, 5, 1)", x -> x.meter(1, 2, 5, 1), -13, 3);
            r.named("meter(1, 2, 1, 20)", x -> x.meter(1, 2, 1, 20), -13, 3);
        }
        Refusals small = new Refusals(check, "small", Made::small);
        small.named("meter(2, 1, 1, 0)", x -> x.meter(2, 1, 1, 0), -13, 3);
        small.named("meter(2, 1, 0, 1)", x -> x.meter(2, 1, 0, 1), -13, 3);
        LoadCycles x = Made.small();
        check.due("meter of a row of none", x.meter(2, 1, 0, 0), 0);
        check.due("fault()", x.fault(), 0);
        check.due("times", x.many(1), 0);
    }

    /** meter: "STATE: there is no HOUSE; OUTSIDE: a cell is not BASE .. 99." */
    private static void meterStateAndCells() {
        Refusals houseless = new Refusals(check, "houseless", Made::houseless);
        houseless.named("meter(1, 2, 0, 3)", x -> x.meter(1, 2, 0, 3), -3, 0);
        houseless.named("meter(1, 2, 5, 0)", x -> x.meter(1, 2, 5, 0), -3, 0);
        houseless.named("meter(1, 2, 0, 5)", x -> x.meter(1, 2, 0, 5), -3, 0);
        Refusals timeless = new Refusals(check, "timeless", Made::timeless);
        timeless.named("meter(1, 2, 0, 1)", x -> x.meter(1, 2, 0, 1), -2, 0);
        timeless.named("meter(1, 2, 0, 3)", x -> x.meter(1, 2, 0, 3), -2, 0);
        Refusals full = new Refusals(check, "full", Made::full);
        int[][] cells = {{2, 1}, {3, 1}, {4, 1}, {5, 4}, {6, 3}, {8, 2}, {9, 1}};
        for (int[] c : cells) {
            full.named("meter(2, 1, " + c[0] + ", " + c[1] + ")", x -> x.meter(2, 1, c[0], c[1]), -2, 0);
        }
        LoadCycles x = Made.full();
        check.due("the base and 99", x.meter(2, 1, 5, 2), 2);
        check.due("value(0)", x.value(0), 2);
        check.due("value(1)", x.value(1), 99);
        check.due("readings stay", x.many(4), 8);
        check.due("the base stays", x.many(3), 2);
    }

    /** value: "The VALUE of a TIME. UNKNOWN." */
    private static void valueUnknown() {
        Refusals full = new Refusals(check, "full", Made::full);
        Refusals timeless = new Refusals(check, "timeless", Made::timeless);
        for (int t : new int[] {-1, 20, MIN, MAX}) {
            full.unnamed("value(" + t + ")", x -> x.value(t), -1);
            timeless.unnamed("value(" + t + ")", x -> x.value(t), -1);
        }
        timeless.unnamed("value(0)", x -> x.value(0), -1);
        LoadCycles x = Made.full();
        check.due("value(0)", x.value(0), 2);
        check.due("value(5)", x.value(5), 99);
        check.due("value(19)", x.value(19), 11);
    }

    /** base: "The BASE becomes v (0 .. 99): what it was." */
    private static void baseAtItsEdges() {
        LoadCycles x = Made.timeless();
        check.due("base(99)", x.base(99), 1);
        check.due("base(0)", x.base(0), 99);
        check.due("base(0) again", x.base(0), 0);
        for (int place = 0; place < 20; place++) {
            int[] values = new int[20];
            java.util.Arrays.fill(values, 50);
            values[place] = 40;
            LoadCycles y = Check.of("u;P9", 0, values);
            check.due("base(41), the least at " + place, y.base(41), -3);
            check.due("base(40), the least at " + place, y.base(40), 0);
            check.due("its rest", y.rest(place), 0);
            check.due("many(3)", y.many(3), 40);
        }
        LoadCycles z = Check.of("u;P9", 0, 99, 99);
        check.due("base(99) of 99", z.base(99), 0);
        check.due("energy", z.energy(0), 0);
        check.due("rests", z.best(0), 0);
    }

    /** base: "OUTSIDE; STATE: there is no HOUSE, a VALUE would be less than it." */
    private static void baseRefused() {
        Refusals full = new Refusals(check, "full", Made::full);
        Refusals houseless = new Refusals(check, "houseless", Made::houseless);
        for (int v : new int[] {-1, 100, MIN, MAX}) {
            full.unnamed("base(" + v + ")", x -> x.base(v), -2);
            houseless.unnamed("base(" + v + ")", x -> x.base(v), -2);
        }
        for (int v : new int[] {3, 99}) {
            full.unnamed("base(" + v + ")", x -> x.base(v), -3);
        }
        for (int v : new int[] {0, 1, 99}) {
            houseless.unnamed("base(" + v + ")", x -> x.base(v), -3);
        }
    }
}
