import java.util.Arrays;

/** The edges of part 4 and of promises 18 to 22; above each test stand the document's words that it is of. */
public final class ReadingEdgesTest {
    private static final int MIN = Made.MIN, MAX = Made.MAX;
    private static final long LOST = Made.LOST;
    private static final Check check = new Check();

    public static void main(String[] args) {
        eightReadingsAtMost();
        readingsAreNumberedByHowManyAreAhead();
        readingAtItsEdges();
        readingRefused();
        readingFull();
        backAtItsEdges();
        backRefused();
        noReadings();
        kindsNoneToAll();
        kindsInPlaceOfWhatItIsAlone();
        firstsNoneToAll();
        firstsInPlaceOfWhatItIsAlone();
        readingsOfOthers();
        readingsOfAnEmptyMeter();
        readingsStayOverChanges();
        kindsAndFirstsRefused();
        oddsInLeastTerms();
        oddsRefused();
        check.end();
    }

    /** "READINGS, 8 at most". */
    private static void eightReadingsAtMost() {
        LoadCycles x = Made.timeless();
        x.back(1);
        for (int r = 0; r < 8; r++) {
            check.due("reading " + r, x.reading(0, 0), r);
            check.due("many(4)", x.many(4), r + 1);
        }
        check.due("a ninth", x.reading(0, 0), -4);
        check.due("many(4)", x.many(4), 8);
        check.due("back(1)", x.back(1), 7);
        check.due("an eighth again", x.reading(0, 0), 7);
        check.due("a ninth again", x.reading(0, 0), -4);
    }

    /** "numbered by how many there are ahead (the first one is 0)". */
    private static void readingsAreNumberedByHowManyAreAhead() {
        LoadCycles x = Made.full();
        check.due("back(8)", x.back(8), 0);
        check.due("the first one", x.reading(3, 5), 0);
        check.due("the second one", x.reading(3, 5), 1);
        check.due("back(1)", x.back(1), 1);
        check.due("the second one again", x.reading(0, 7), 1);
        x.house(0, 0, 0, 21);
        check.due("the first one of a new house", x.reading(0, 7), 0);
    }

    /** reading: "v (0 .. 2000)". */
    private static void readingAtItsEdges() {
        LoadCycles x = Check.of("u;P9;D9", 0, 8);
        check.due("0", x.reading(0, 0), 0);
        check.due("kinds by 0", x.kinds(0), 7);
        check.due("2000", x.reading(1, 2000), 1);
        check.due("kinds by 2000", x.kinds(0), 0);
        check.due("firsts by 2000", x.firsts(1), 0);
        check.due("back(1)", x.back(1), 1);
        check.due("kinds by 0 again", x.kinds(0), 7);
        // The most energy that there can be.
        int[] values = new int[20];
        Arrays.fill(values, 99);
        x = Check.of("u;D9", 0, values);
        x.reading(0, 360);
        check.due("kinds by 360", x.kinds(0), 4);
        check.due("firsts by 360", x.firsts(0), 1 << 9);
    }

    /** reading: "UNKNOWN; OUTSIDE: v (0 .. 2000)", ahead of FULL. */
    private static void readingRefused() {
        for (Refusals r : new Refusals[] {new Refusals(check, "full", Made::full), new Refusals(check, "small", Made::small)}) {
            for (int a : new int[] {-1, 4, MIN, MAX}) {
                r.unnamed("reading(" + a + ", 0)", x -> x.reading(a, 0), -1);
                r.unnamed("reading(" + a + ", -1)", x -> x.reading(a, -1), -1);
            }
            for (int v : new int[] {-1, 2001, MIN, MAX}) {
                r.unnamed("reading(0, " + v + ")", x -> x.reading(0, v), -2);
                r.unnamed("reading(1, " + v + ")", x -> x.reading(1, v), -2);
            }
        }
        Refusals small = new Refusals(check, "small", Made::small);
        small.unnamed("reading(2, 0)", x -> x.reading(2, 0), -1);
        new Refusals(check, "houseless", Made::houseless).unnamed("reading(0, 2001)", x -> x.reading(0, 2001), -1);
    }

    /** reading: "FULL." */
    private static void readingFull() {
        Refusals full = new Refusals(check, "full", Made::full);
        for (int a = 0; a < 4; a++) {
            int of = a;
            full.unnamed("reading(" + a + ", 0)", x -> x.reading(of, 0), -4);
            full.unnamed("reading(" + a + ", 2000)", x -> x.reading(of, 2000), -4);
        }
    }

    /** back: "The last n READINGS (0 .. as many as there are) are taken back: how many are left." */
    private static void backAtItsEdges() {
        for (int n = 0; n <= 8; n++) {
            LoadCycles x = Made.full();
            check.due("back(" + n + ")", x.back(n), 8 - n);
            check.due("many(4)", x.many(4), 8 - n);
            check.due("back of all that are left", x.back(8 - n), 0);
            check.due("back(1) of none", x.back(1), -2);
            check.due("back(0) of none", x.back(0), 0);
        }
        // The last ones go, not the first ones.
        LoadCycles x = Check.of("u;P3", 0, 6, 4, 3);
        x.reading(0, 9);
        x.reading(0, 8);
        x.reading(0, 6);
        check.due("all three", x.kinds(0), 0);
        x.back(2);
        check.due("the first one is left", x.kinds(0), 1);
    }

    /** back: "OUTSIDE." */
    private static void backRefused() {
        Refusals full = new Refusals(check, "full", Made::full);
        Refusals small = new Refusals(check, "small", Made::small);
        Refusals houseless = new Refusals(check, "houseless", Made::houseless);
        for (int n : new int[] {-1, 9, MIN, MAX}) {
            full.unnamed("back(" + n + ")", x -> x.back(n), -2);
            small.unnamed("back(" + n + ")", x -> x.back(n), -2);
            houseless.unnamed("back(" + n + ")", x -> x.back(n), -2);
        }
        small.unnamed("back(2)", x -> x.back(2), -2);
        houseless.unnamed("back(1)", x -> x.back(1), -2);
        houseless.unnamed("back(0)", x -> x.back(0), 0);
    }

    /** "by which all READINGS (of others, too) are so": of no READINGS all are. */
    private static void noReadings() {
        LoadCycles x = Made.full();
        x.back(8);
        for (int a = 0; a < 4; a++) {
            check.due("kinds(" + a + ")", x.kinds(a), 7);
            check.due("firsts(" + a + ")", x.firsts(a), 1022);
        }
    }

    /** "KINDS of an APPLIANCE: 0 .. 2 ..; as sets." "Sets are told as bits (bit k for number k)." */
    private static void kindsNoneToAll() {
        // 9 is on at three times; 10 and 18 are too much.
        int[] values = {9, 9, 4, 9};
        int[] energies = {27, 0, 0};
        for (int v : new int[] {0, 27, 1, 28, 26}) {
            LoadCycles x = Check.of("u;H9", 0, values);
            x.reading(0, v);
            int due = 0;
            for (int kind = 0; kind < 3; kind++) {
                due |= energies[kind] == v ? 1 << kind : 0;
            }
            check.due("kinds by " + v, x.kinds(0), due);
        }
        // Too little for any kind: all of them took nothing.
        LoadCycles all = Check.of("u;D9", 0, 8);
        all.reading(0, 0);
        check.due("all kinds", all.kinds(0), 7);
        all.reading(0, 1);
        check.due("no kinds", all.kinds(0), 0);
    }

    /** "in place of what it is alone": another kind for this one, all else as it is. */
    private static void kindsInPlaceOfWhatItIsAlone() {
        Refusals full = new Refusals(check, "full", Made::full);
        LoadCycles told = Made.full();
        for (int a = 0; a < 4; a++) {
            int of = a;
            check.due("its own kind is one of them", told.kinds(a) >> told.ofAppliance(a, 0) & 1, 1);
            check.due("its own first is one of them", told.firsts(a) >> told.ofAppliance(a, 10) & 1, 1);
            full.unnamed("kinds(" + a + ")", x -> x.kinds(of), told.kinds(a));
            full.unnamed("firsts(" + a + ")", x -> x.firsts(of), told.firsts(a));
        }
        // With a kind of 2 alone the first one would take 4 at each time, and the second one nothing.
        LoadCycles x = Check.of("u;P2;P1", 0, 4, 4);
        x.reading(0, 8);
        check.due("DOUBLE alone", x.kinds(0), 4);
        check.due("the other's kind changes nothing of that", x.kinds(1), 0);
    }

    /** "FIRSTS of an APPLIANCE: LEVEL 0 from 1 .. 9; as sets." */
    private static void firstsNoneToAll() {
        for (int value = 0; value <= 10; value++) {
            for (int energy = 0; energy <= 10; energy++) {
                LoadCycles x = Check.of("u;P5", 0, value);
                x.reading(0, energy);
                int due = 0;
                for (int v = 1; v <= 9; v++) {
                    due |= (v <= value ? v : 0) == energy ? 1 << v : 0;
                }
                check.due("firsts by " + energy + " of " + value, x.firsts(0), due);
            }
        }
    }

    /** "FIRSTS ..: LEVEL 0", not the others. */
    private static void firstsInPlaceOfWhatItIsAlone() {
        LoadCycles x = Check.of("u;P95", 0, 9, 5);
        x.reading(0, 14);
        check.due("9 alone", x.firsts(0), 1 << 9);
        x.back(1);
        x.reading(0, 6);
        check.due("1 and 5", x.firsts(0), 1 << 1);
        check.due("the level stays", x.ofAppliance(0, 10), 9);
        check.due("the energy stays", x.energy(0), 14);
    }

    /** "(of others, too)". */
    private static void readingsOfOthers() {
        LoadCycles x = Check.of("u;P5;P3", 0, 5, 3);
        check.due("a reading of the other", x.reading(1, 3), 0);
        // With 4 or 5 the second one is on at the last time alone; with any other first level it is on at both.
        check.due("firsts by the other's reading", x.firsts(0), 1 << 4 | 1 << 5);
        // Each reading must be so: one that is not takes all away.
        x.reading(0, 5);
        check.due("firsts by both", x.firsts(0), 1 << 5);
        x.reading(1, 4);
        check.due("none by three", x.firsts(0), 0);
        check.due("no kinds by three", x.kinds(0), 0);
    }

    /** READINGS of a HOUSE whose METER is empty: no energy but 0 is so. */
    private static void readingsOfAnEmptyMeter() {
        LoadCycles x = Made.timeless();
        check.due("kinds by 0", x.kinds(0), 7);
        check.due("firsts by 0", x.firsts(0), 1022);
        x.reading(0, 1);
        check.due("kinds by 1", x.kinds(0), 0);
        check.due("firsts by 1", x.firsts(0), 0);
    }

    /** READINGS stay until they are taken back, or a TEXT is taken; what follows is told by how all is now. */
    private static void readingsStayOverChanges() {
        LoadCycles x = Check.of("u;P5", 0, 5, 5);
        x.reading(0, 10);
        check.due("kinds", x.kinds(0), 1);
        check.due("firsts", x.firsts(0), 1 << 5);
        x.level(0, 0, 4);
        check.due("kinds of level 4", x.kinds(0), 2);
        Check.meter(x, 10);
        check.due("kinds of a meter of 10", x.kinds(0), 0);
        x.level(0, 0, 5);
        check.due("kinds of level 5", x.kinds(0), 4);
        x.base(1);
        check.due("kinds of base 1", x.kinds(0), 0);
        x.base(0);
        check.due("kinds of base 0", x.kinds(0), 4);
        Check.house(x, "u;P5");
        check.due("kinds of a new house", x.kinds(0), 7);
    }

    /** kinds, firsts: "UNKNOWN." */
    private static void kindsAndFirstsRefused() {
        Refusals full = new Refusals(check, "full", Made::full);
        Refusals small = new Refusals(check, "small", Made::small);
        Refusals houseless = new Refusals(check, "houseless", Made::houseless);
        for (int a : new int[] {-1, 4, MIN, MAX}) {
            full.unnamed("kinds(" + a + ")", x -> x.kinds(a), -1);
            full.unnamed("firsts(" + a + ")", x -> x.firsts(a), -1);
        }
        small.unnamed("kinds(2)", x -> x.kinds(2), -1);
        small.unnamed("firsts(2)", x -> x.firsts(2), -1);
        houseless.unnamed("kinds(0)", x -> x.kinds(0), -1);
        houseless.unnamed("firsts(0)", x -> x.firsts(0), -1);
    }

    /** "Shares are told as upper and lower number (above 0) in least terms"; "ODDS ..: of all TIMES .. the share of those ..". */
    private static void oddsInLeastTerms() {
        for (int n = 1; n <= 20; n++) {
            for (int on = 0; on <= n; on++) {
                int[] values = new int[n];
                for (int t = 0; t < on; t++) {
                    values[t] = 9;
                }
                LoadCycles x = Check.of("u;P9", 0, values);
                long upper = x.odds(0, 0);
                long lower = x.odds(0, 1);
                check.due("odds " + on + " of " + n, upper * n, on * lower);
                check.due("odds are above 0", lower > 0 ? 1 : 0, 1);
                check.due("odds in least terms", java.math.BigInteger.valueOf(upper).gcd(java.math.BigInteger.valueOf(lower)).longValue(), 1);
            }
        }
        check.due("none: upper", Check.of("u;P9", 0, 0, 0, 0).odds(0, 0), 0);
        check.due("none: lower", Check.of("u;P9", 0, 0, 0, 0).odds(0, 1), 1);
        check.due("all: upper", Check.of("u;P9", 0, 9, 9, 9).odds(0, 0), 1);
        check.due("all: lower", Check.of("u;P9", 0, 9, 9, 9).odds(0, 1), 1);
    }

    /** odds: "LOST: UNKNOWN; OUTSIDE; STATE: the METER is empty." */
    private static void oddsRefused() {
        Refusals full = new Refusals(check, "full", Made::full);
        Refusals timeless = new Refusals(check, "timeless", Made::timeless);
        for (int a : new int[] {-1, 4, MIN, MAX}) {
            full.unnamed("odds(" + a + ", 0)", x -> x.odds(a, 0), LOST);
        }
        for (int which : new int[] {-1, 2, MIN, MAX}) {
            full.unnamed("odds(0, " + which + ")", x -> x.odds(0, which), LOST);
        }
        timeless.unnamed("odds(0, 0)", x -> x.odds(0, 0), LOST);
        timeless.unnamed("odds(0, 1)", x -> x.odds(0, 1), LOST);
        new Refusals(check, "houseless", Made::houseless).unnamed("odds(0, 0)", x -> x.odds(0, 0), LOST);
    }
}
