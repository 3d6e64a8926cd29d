import java.util.Arrays;

/** The edges of part 2 and of promises 8 to 12; above each test stand the document's words that it is of. */
public final class BestEdgesTest {
    private static final int MIN = Made.MIN, MAX = Made.MAX;
    private static final int[] WHATS = {0, 2, 3, 4, 10, 11, 12, 13};
    private static final Check check = new Check();

    public static void main(String[] args) {
        allAreOffAheadOfTimeZero();
        goesOnByOneAtMost();
        goesRoundItsRing();
        restIsNeverBelowZero();
        leastRests();
        fewestChanges();
        lesserAtTheFirstDifference();
        mostChangesAndStarts();
        energiesRestsAndBaseMakeUpTheMeter();
        emptyMeter();
        atRefused();
        restRefused();
        bestRefused();
        energyRefused();
        dayOfNone();
        dayOfTwenty();
        dayLevelsAtTheirEdges();
        dayBaseAtItsEdges();
        dayValuesAtTheirEdges();
        dayActsOneBehindAnother();
        dayFirstWrongIsTheFirst();
        dayOfOneThatIsNotThere();
        dayOfNoTimes();
        dayChangesNothing();
        dayUnknownAndOutside();
        dayFaults();
        dayState();
        dayPairsOutside();
        check.end();
    }

    private static void at(LoadCycles x, String name, int a, int... states) {
        for (int t = 0; t < states.length; t++) {
            check.due(name + " at(" + t + ", " + a + ")", x.at(t, a), states[t]);
        }
    }

    private static void best(LoadCycles x, String name, int... due) {
        for (int what = 0; what < 4; what++) {
            check.due(name + " best(" + what + ")", x.best(what), due[what]);
        }
    }

    /** "Ahead of TIME 0 all are off; from each TIME to the next one (and to TIME 0) each stays as it is, or goes on by one". */
    private static void allAreOffAheadOfTimeZero() {
        LoadCycles x = Check.of("u;P19", 0, 9);
        at(x, "the first level alone", 0, 1);
        check.due("its rest", x.rest(0), 8);
        at(Check.of("u;P91", 0, 1), "not the second level", 0, 0);
        at(Check.of("u;P9", 0, 9), "at time 0", 0, 1);
        best(Check.of("u;P9;P9;P9;P9", 0, 36), "all at once", 0, 4, 4, 36);
    }

    /** "from off to its first LEVEL, from each LEVEL to the next one": never two at once. */
    private static void goesOnByOneAtMost() {
        LoadCycles x = Check.of("u;P159", 0, 1, 9, 9);
        at(x, "by one", 0, 1, 2, 3);
        best(x, "by one", 4, 3, 1, 15);
        // From the second level to the first one it takes two times, so that it stays.
        x = Check.of("u;P94", 0, 9, 4, 9);
        at(x, "not back", 0, 1, 2, 2);
        best(x, "not back", 5, 2, 1, 17);
        // From its only level to the same one again it takes a time at which it is off.
        x = Check.of("u;P5", 0, 5, 5, 0, 5);
        at(x, "one level", 0, 1, 1, 0, 1);
        best(x, "one level", 0, 3, 2, 15);
    }

    /** "from its last LEVEL to off." */
    private static void goesRoundItsRing() {
        for (int levels = 1; levels <= 3; levels++) {
            int[] values = new int[20];
            int[] states = new int[20];
            for (int t = 0; t < 20; t++) {
                states[t] = (t + 1) % (levels + 1);
                values[t] = states[t] == 0 ? 0 : 10 - 2 * states[t];
            }
            LoadCycles x = Check.of("u;P" + "864".substring(0, levels), 0, values);
            at(x, "a ring of " + levels, 0, states);
            check.due("changes of a ring of " + levels, x.best(1), 20);
            check.due("starts of a ring of " + levels, x.best(2), 1 + 19 / (levels + 1));
        }
        // A last level that the meter can't bear makes it go off.
        at(Check.of("u;P75", 0, 7, 5, 4), "off behind the last level", 0, 1, 2, 0);
        // At the last time it need not go off.
        at(Check.of("u;P75", 0, 7, 5), "at its last level", 0, 1, 2);
        // From its last level to its first one it takes two times: off is worth a rest of 9, to be at 9 again then.
        LoadCycles again = Check.of("u;P94", 0, 9, 4, 9, 9, 9);
        at(again, "through off", 0, 1, 2, 0, 1, 1);
        best(again, "through off", 9, 4, 2, 31);
    }

    /** "REST of a TIME ..; it is never below 0." */
    private static void restIsNeverBelowZero() {
        LoadCycles x = Check.of("u;P5", 0, 4);
        at(x, "5 above 4", 0, 0);
        check.due("rest of 4", x.rest(0), 4);
        x = Check.of("u;P5", 0, 5);
        at(x, "5 of 5", 0, 1);
        check.due("rest of 5", x.rest(0), 0);
        x = Check.of("u;P5", 3, 7);
        at(x, "5 above 7 less 3", 0, 0);
        check.due("rest of 7 less 3", x.rest(0), 4);
        at(Check.of("u;P5", 3, 8), "5 of 8 less 3", 0, 1);
        at(Check.of("u;H5", 0, 5), "6 above 5", 0, 0);
        at(Check.of("u;D5", 0, 9), "10 above 9", 0, 0);
        at(Check.of("u;D5", 0, 10), "10 of 10", 0, 1);
        // A later time counts, too: on at time 0 it could be neither at 5 nor at 9 at time 1.
        x = Check.of("u;P59", 0, 5, 4);
        at(x, "no way on", 0, 0, 0);
        best(x, "no way on", 9, 0, 0, 0);
        // Two that fit alone need not fit together.
        x = Check.of("u;P5;P4", 0, 8);
        at(x, "5 alone", 0, 1);
        at(x, "4 alone", 1, 0);
    }

    /** "BEST: that by which all RESTS together are the least", whatever changes it takes. */
    private static void leastRests() {
        // 1 less is worth any changes: 4 for each time.
        LoadCycles x = Check.of("u;P9;P1", 0, 9, 1, 9, 1, 9, 1);
        best(x, "all told", 0, 11, 6, 30);
        at(x, "all told", 0, 1, 0, 1, 0, 1, 0);
        at(x, "all told", 1, 0, 1, 0, 1, 0, 1);
        // What is lost now may be won later: on at once it is past its great level too soon.
        x = Check.of("u;P19", 0, 1, 0, 1, 9, 9);
        at(x, "later", 0, 0, 0, 1, 2, 2);
        best(x, "later", 1, 2, 1, 19);
    }

    /** "of several that with the fewest CHANGES (times that any goes on)". */
    private static void fewestChanges() {
        LoadCycles x = Check.of("u;P6;P33", 0, 6, 6);
        best(x, "one of 6", 0, 1, 1, 12);
        // Two that go on at one time are two changes.
        best(Check.of("u;P3;P4", 0, 7), "two at once", 0, 2, 2, 7);
        // Going on to an equal level, and going off, are changes, too.
        best(Check.of("u;P55", 0, 5, 5, 0), "two levels and off", 0, 3, 1, 10);
        // It is off at the end either way, or stays: staying is no change.
        best(Check.of("u;P5", 0, 5, 5, 5, 5), "it stays", 0, 1, 1, 20);
        best(Check.of("u;P5", 0, 0, 0), "it stays off", 0, 0, 0, 0);
        // Changes of later times count as much as those of the first one: the first of the three needs but one more.
        LoadCycles later = Check.of("u;P63;P6;P3", 0, 6, 3);
        at(later, "fewest of all times", 0, 1, 2);
        best(later, "fewest of all times", 0, 2, 1, 9);
    }

    /** "at the first TIME at which they differ the first APPLIANCE that differs is at the lesser (off, or the LEVEL ..)". */
    private static void lesserAtTheFirstDifference() {
        LoadCycles x = Check.of("u;P7;P7;P7;P7", 0, 7, 14, 21, 28);
        at(x, "four alike", 0, 0, 0, 0, 1);
        at(x, "four alike", 1, 0, 0, 1, 1);
        at(x, "four alike", 2, 0, 1, 1, 1);
        at(x, "four alike", 3, 1, 1, 1, 1);
        // Which goes off first: the first one, so that it is at the lesser then.
        x = Check.of("u;P7;P7", 0, 14, 7, 0);
        at(x, "two go off", 0, 1, 0, 0);
        at(x, "two go off", 1, 1, 1, 0);
        // Of two levels alike the one with the lesser number, for as long as can be.
        x = Check.of("u;P666", 0, 6, 6, 6, 6, 0);
        at(x, "three levels alike", 0, 1, 1, 2, 3, 0);
        // The first time decides ahead of the first appliance.
        x = Check.of("u;P2;P2", 0, 2, 2);
        at(x, "the first time", 0, 0, 0);
        at(x, "the first time", 1, 1, 1);
    }

    /** "CHANGES (times that any goes on)", "STARTS: how many times any goes from off to its first LEVEL in BEST": the most. */
    private static void mostChangesAndStarts() {
        int[] values = new int[20];
        for (int t = 0; t < 20; t += 2) {
            values[t] = 99;
        }
        best(Check.of("u;P9;P9;P9;P9", 0, values), "on and off", 10 * 63, 80, 40, 10 * 36);
        Arrays.fill(values, 99);
        best(Check.of("u;D9;D9;D9;D9", 0, values), "always on", 20 * 27, 4, 4, 20 * 72);
        best(Check.of("u;D9;D9;D9;D9", 99, values), "all is the base", 0, 0, 0, 0);
        Arrays.fill(values, 0);
        best(Check.of("u;P1;P1;P1;P1", 0, values), "always off", 0, 0, 0, 0);
        Arrays.fill(values, 99);
        LoadCycles x = Check.of("u;P123;P123;P123;P123", 0, values);
        best(x, "up to the last level", 20 * 99 - 4 * (1 + 2 + 18 * 3), 12, 4, 4 * (1 + 2 + 18 * 3));
    }

    /** "energies, to which the rest and the base make up the whole meter". */
    private static void energiesRestsAndBaseMakeUpTheMeter() {
        LoadCycles x = Made.full();
        int meter = 0;
        int rests = 0;
        int energies = 0;
        for (int t = 0; t < 20; t++) {
            meter += x.value(t);
            rests += x.rest(t);
            check.due("rest(" + t + ") is not below 0", x.rest(t) >= 0 ? 1 : 0, 1);
            int left = x.value(t) - 2;
            for (int a = 0; a < 4; a++) {
                int state = x.at(t, a);
                left -= state == 0 ? 0 : x.ofAppliance(a, 19 + state);
            }
            check.due("rest(" + t + ")", x.rest(t), left);
        }
        for (int a = 0; a < 4; a++) {
            energies += x.energy(a);
        }
        check.due("best(0)", x.best(0), rests);
        check.due("best(3)", x.best(3), energies);
        check.due("the whole meter", rests + energies + 20 * 2, meter);
    }

    /** "The METER is a row of 0 to 20 VALUES": of none there is nothing to tell. */
    private static void emptyMeter() {
        LoadCycles x = Made.timeless();
        best(x, "empty", 0, 0, 0, 0);
        check.due("energy(0)", x.energy(0), 0);
        check.due("longest(0)", x.longest(0), 0);
        check.due("share(0)", x.share(0), 0);
        x = Made.full();
        x.meter(1, 2, 20, 0);
        best(x, "emptied", 0, 0, 0, 0);
        for (int a = 0; a < 4; a++) {
            check.due("energy(" + a + ")", x.energy(a), 0);
        }
    }

    /** at: "UNKNOWN: TIME, APPLIANCE." */
    private static void atRefused() {
        Refusals full = new Refusals(check, "full", Made::full);
        Refusals small = new Refusals(check, "small", Made::small);
        Refusals timeless = new Refusals(check, "timeless", Made::timeless);
        for (int none : new int[] {-1, 20, MIN, MAX}) {
            full.unnamed("at(" + none + ", 0)", x -> x.at(none, 0), -1);
            full.unnamed("at(0, " + (none == 20 ? 4 : none) + ")", x -> x.at(0, none == 20 ? 4 : none), -1);
            full.unnamed("at(" + none + ", " + none + ")", x -> x.at(none, none), -1);
        }
        small.unnamed("at(3, 1)", x -> x.at(3, 1), -1);
        small.unnamed("at(2, 2)", x -> x.at(2, 2), -1);
        timeless.unnamed("at(0, 0)", x -> x.at(0, 0), -1);
    }

    /** rest: "UNKNOWN." */
    private static void restRefused() {
        Refusals full = new Refusals(check, "full", Made::full);
        Refusals small = new Refusals(check, "small", Made::small);
        for (int t : new int[] {-1, 20, MIN, MAX}) {
            full.unnamed("rest(" + t + ")", x -> x.rest(t), -1);
        }
        small.unnamed("rest(3)", x -> x.rest(3), -1);
        new Refusals(check, "timeless", Made::timeless).unnamed("rest(0)", x -> x.rest(0), -1);
    }

    /** best: "OUTSIDE; STATE: there is no HOUSE." */
    private static void bestRefused() {
        Refusals full = new Refusals(check, "full", Made::full);
        Refusals houseless = new Refusals(check, "houseless", Made::houseless);
        for (int what : new int[] {-1, 4, MIN, MAX}) {
            full.unnamed("best(" + what + ")", x -> x.best(what), -2);
            houseless.unnamed("best(" + what + ")", x -> x.best(what), -2);
        }
        for (int what = 0; what < 4; what++) {
            int asked = what;
            houseless.unnamed("best(" + what + ")", x -> x.best(asked), -3);
        }
    }

    /** energy: "UNKNOWN." */
    private static void energyRefused() {
        Refusals full = new Refusals(check, "full", Made::full);
        for (int a : new int[] {-1, 4, MIN, MAX}) {
            full.unnamed("energy(" + a + ")", x -> x.energy(a), -1);
        }
        new Refusals(check, "small", Made::small).unnamed("energy(2)", x -> x.energy(2), -1);
        new Refusals(check, "houseless", Made::houseless).unnamed("energy(0)", x -> x.energy(0), -1);
    }

    /** day: "n (0 .. 20)": a DAY of no pairs is how all is now. */
    private static void dayOfNone() {
        LoadCycles x = Made.full();
        for (int i : new int[] {0, 5, 10}) {
            check.due("rests", x.day(2, 1, i, 0, 0), x.best(0));
            check.due("FIRST WRONG", x.day(2, 1, i, 0, 1), -9);
            check.due("changes", x.day(2, 1, i, 0, 2), x.best(1));
            check.due("starts", x.day(2, 1, i, 0, 3), x.best(2));
            check.due("energies", x.day(2, 1, i, 0, 4), x.best(3));
            for (int a = 0; a < 4; a++) {
                check.due("energy " + a, x.day(2, 1, i, 0, 10 + a), x.energy(a));
            }
            check.due("fault()", x.fault(), 0);
        }
        x = Made.small();
        check.due("of a row of none", x.day(2, 1, 0, 0, 1), -9);
        check.due("fault()", x.fault(), 0);
    }

    /** day: "n (0 .. 20)": of 20 pairs all are done, the last one, too. */
    private static void dayOfTwenty() {
        int[] values = new int[20];
        int[] cells = new int[60];
        for (int t = 0; t < 20; t++) {
            cells[20 + 2 * t] = 9;
            cells[21 + 2 * t] = 30 + t;
        }
        LoadCycles x = Check.of("u;P9", 0, values);
        Check.fill(x, 3, 0, cells);
        check.due("energy ahead", x.energy(0), 0);
        for (int n = 0; n <= 20; n++) {
            check.due("energy of " + n + " pairs", x.day(3, 0, 20, n, 10), 9 * n);
        }
        x.put(3, 59, 0);
        check.due("energy with the last pair a level", x.day(3, 0, 20, 20, 10), 9 * 19);
        check.due("energy after", x.energy(0), 0);
        check.due("19 pairs from the third on", x.day(3, 0, 22, 19, 1), -9);
        check.due("20 pairs from the third on", x.day(3, 0, 22, 20, 1), -13);
    }

    private static void acts(String name, LoadCycles x, boolean canBe, int v, int act) {
        check.due(name + ": " + v + " and " + act, Check.day(x, 1, v, act), canBe ? -9 : 0);
        check.due("fault()", x.fault(), 0);
        check.due(name + ": rests by " + v + " and " + act, Check.day(x, 0, v, act) == -100 ? 0 : 1, canBe ? 1 : 0);
    }

    /** "1 .. 9 and 0 .. 11: LEVEL k of APPLIANCE a (3 times a, and k) becomes that"; "(there is no such APPLIANCE, LEVEL ..)". */
    private static void dayLevelsAtTheirEdges() {
        for (int v : new int[] {1, 9}) {
            for (int act = 0; act < 12; act++) {
                acts("full", Made.full(), true, v, act);
                acts("small", Made.small(), act == 0 || act == 3 || act == 4, v, act);
                acts("timeless", Made.timeless(), act == 0, v, act);
            }
        }
        // On from time 0 on at 1, and at 9 from the time of the level that the act is of.
        int[] energies = {27, 19, 11};
        for (int a = 0; a < 4; a++) {
            for (int k = 0; k < 3; k++) {
                LoadCycles x = Check.of("u;P111;P111;P111;P111", 0, 99, 99, 99);
                for (int other = 0; other < 4; other++) {
                    int due = other == a ? energies[k] : 3;
                    check.due("9 and " + (3 * a + k) + ", of " + other, Check.day(x, 10 + other, 9, 3 * a + k), due);
                }
            }
        }
    }

    /** "0 .. 99 and 20: the BASE"; "a VALUE would be less than the BASE". */
    private static void dayBaseAtItsEdges() {
        acts("small", Made.small(), true, 0, 20);
        acts("small", Made.small(), true, 4, 20);
        acts("small", Made.small(), false, 5, 20);
        acts("small", Made.small(), false, 99, 20);
        acts("timeless", Made.timeless(), true, 0, 20);
        acts("timeless", Made.timeless(), true, 99, 20);
        LoadCycles x = Check.of("u;P5", 3, 8, 8);
        check.due("rests with base 3", Check.day(x, 0), 0);
        check.due("rests with base 0", Check.day(x, 0, 0, 20), 6);
        check.due("rests with base 8", Check.day(x, 0, 8, 20), 0);
        check.due("energies with base 8", Check.day(x, 4, 8, 20), 0);
        check.due("energies with base 4", Check.day(x, 4, 4, 20), 0);
        check.due("rests with base 4", Check.day(x, 0, 4, 20), 8);
    }

    /** "0 .. 99 and 30 .. 49: the VALUE of the TIME that is 30 less"; "(there is no such .. TIME; a VALUE would be less ..)". */
    private static void dayValuesAtTheirEdges() {
        for (int t = 0; t < 20; t++) {
            acts("full", Made.full(), true, 99, 30 + t);
            acts("full", Made.full(), true, 2, 30 + t);
            acts("full", Made.full(), false, 1, 30 + t);
            acts("full", Made.full(), false, 0, 30 + t);
            acts("small", Made.small(), t < 3, 99, 30 + t);
            acts("timeless", Made.timeless(), false, 99, 30 + t);
        }
        LoadCycles x = Check.of("u;P5", 0, 0, 0, 0);
        check.due("energy by the first time", Check.day(x, 10, 5, 30), 5);
        check.due("energy by the last time", Check.day(x, 10, 99, 32), 5);
        check.due("rests by the last time", Check.day(x, 0, 99, 32), 94);
        check.due("rests by 0", Check.day(x, 0, 0, 32), 0);
    }

    /** "A DAY told: a row of pairs, one behind another, from how all is now": an act is of what acts ahead of it left. */
    private static void dayActsOneBehindAnother() {
        LoadCycles x = Check.of("u;P5", 5, 9, 5, 7);
        check.due("a value, then a base", Check.day(x, 1, 6, 31, 6, 20), -9);
        check.due("a base, then a value", Check.day(x, 1, 6, 20, 6, 31), 0);
        check.due("a lesser base, then a lesser value", Check.day(x, 1, 4, 20, 4, 31), -9);
        check.due("a lesser value, then a lesser base", Check.day(x, 1, 4, 31, 4, 20), 0);
        check.due("a base up and down", Check.day(x, 1, 9, 31, 9, 32, 9, 20, 0, 20, 0, 31), -9);
        check.due("a base up, a value down", Check.day(x, 1, 9, 31, 9, 32, 9, 20, 8, 30), 3);
        check.due("the last of one time stands", Check.day(x, 0, 99, 30, 98, 30, 10, 30), 2);
        check.due("the last of one level stands", Check.day(x, 10, 1, 0, 9, 0, 4, 0), 4);
        check.due("the last base stands", Check.day(x, 0, 1, 20, 5, 20, 0, 20), 6);
    }

    /** "FIRST WRONG: the first act that can't be"; "of one with a FIRST WRONG: -100 less that (but what 1)." */
    private static void dayFirstWrongIsTheFirst() {
        int[][] wrongs = {{9, 1}, {1, 5}, {1, 6}, {1, 11}, {5, 20}, {0, 30}, {99, 33}, {99, 49}};
        for (int[] act : wrongs) {
            for (int place : new int[] {0, 1, 18, 19}) {
                int[] cells = new int[40];
                for (int p = 0; p < 20; p++) {
                    cells[2 * p] = p < place ? 5 : act[0];
                    cells[2 * p + 1] = p < place ? 0 : act[1];
                }
                LoadCycles x = Made.small();
                check.due("wrong at " + place, Check.day(x, 1, cells), place);
                for (int what : WHATS) {
                    check.due("wrong at " + place + ", asked " + what, x.day(2, 2, 0, 20, what), -100 - place);
                }
                check.due("fault()", x.fault(), 0);
                check.due("the pairs ahead of it", x.day(2, 2, 0, place, 1), -9);
            }
        }
    }

    /** "ENERGY of APPLIANCE a then (10 and a; NONE: there is no such one)". */
    private static void dayOfOneThatIsNotThere() {
        LoadCycles x = Made.small();
        check.due("the last one", Check.day(x, 11, 9, 3), 13);
        check.due("the third", Check.day(x, 12, 9, 3), -9);
        check.due("the fourth", Check.day(x, 13, 9, 3), -9);
        check.due("fault()", x.fault(), 0);
        check.due("the fourth of a wrong day", Check.day(x, 13, 9, 6), -100);
        x = Made.timeless();
        check.due("the first", Check.day(x, 10), 0);
        check.due("the second", Check.day(x, 11), -9);
        check.due("the fourth of four", Check.day(Made.full(), 13) >= 0 ? 1 : 0, 1);
    }

    /** A DAY of a HOUSE whose METER is empty. */
    private static void dayOfNoTimes() {
        LoadCycles x = Made.timeless();
        for (int what : new int[] {0, 2, 3, 4, 10}) {
            check.due("asked " + what, Check.day(x, what, 99, 20, 9, 0), 0);
        }
        check.due("FIRST WRONG", Check.day(x, 1, 99, 20, 9, 0), -9);
        check.due("no TIME", Check.day(x, 1, 99, 20, 99, 30), 1);
    }

    /** "(nothing is changed)". */
    private static void dayChangesNothing() {
        int[] cells = {9, 0, 9, 4, 0, 20, 99, 30, 50, 31, 0, 32};
        Refusals r = new Refusals(check, "a day", () -> {
            LoadCycles x = Made.small();
            Check.fill(x, 2, 2, cells);
            return x;
        });
        // 9 and 10 at time 0, and at time 1 (the HEAVY one at its second level), all off at time 2.
        int[] due = {99 + 50 - 38, -9, 5, 2, 38};
        for (int what = 0; what < 5; what++) {
            int asked = what;
            r.named("day(2, 2, 0, 6, " + what + ")", x -> x.day(2, 2, 0, 6, asked), due[what], 0);
        }
        r.named("day(2, 2, 0, 6, 13)", x -> x.day(2, 2, 0, 6, 13), -9, 0);
        r.named("day(2, 2, 0, 5, 1)", x -> x.day(2, 2, 0, 5, 1), -9, 0);
        Refusals wrong = new Refusals(check, "a wrong day", () -> {
            LoadCycles x = Made.small();
            Check.fill(x, 2, 2, 9, 0, 0, 20, 99, 30, 9, 1);
            return x;
        });
        wrong.named("day(2, 2, 0, 4, 0)", x -> x.day(2, 2, 0, 4, 0), -103, 0);
        wrong.named("day(2, 2, 0, 4, 1)", x -> x.day(2, 2, 0, 4, 1), 3, 0);
    }

    /** day: "UNKNOWN: SHEET; OUTSIDE: lane, n (0 .. 20), what (0 .. 4, 10 .. 13)", ahead of FAULTS and STATE. */
    private static void dayUnknownAndOutside() {
        Refusals full = new Refusals(check, "full", Made::full);
        Refusals houseless = new Refusals(check, "houseless", Made::houseless);
        for (int k : Made.NO_SHEETS) {
            full.named("day(" + k + ", 1, 0, 1, 0)", x -> x.day(k, 1, 0, 1, 0), -1, 0);
            houseless.named("day(" + k + ", 3, -1, 21, 5)", x -> x.day(k, 3, -1, 21, 5), -1, 0);
        }
        for (int lane : Made.NO_LANES) {
            full.named("day(2, " + lane + ", 0, 1, 0)", x -> x.day(2, lane, 0, 1, 0), -2, 0);
            houseless.named("day(3, " + lane + ", -1, 1, 0)", x -> x.day(3, lane, -1, 1, 0), -2, 0);
        }
        for (int n : new int[] {-1, 21, MIN, MAX, 1 << 30, 1 << 31}) {
            full.named("day(2, 1, 0, " + n + ", 0)", x -> x.day(2, 1, 0, n, 0), -2, 0);
            houseless.named("day(3, 1, -1, " + n + ", 0)", x -> x.day(3, 1, -1, n, 0), -2, 0);
        }
        for (int what : new int[] {-1, 5, 9, 14, MIN, MAX}) {
            full.named("day(2, 1, 0, 1, " + what + ")", x -> x.day(2, 1, 0, 1, what), -2, 0);
            houseless.named("day(3, 1, -1, 1, " + what + ")", x -> x.day(3, 1, -1, 1, what), -2, 0);
        }
    }

    /** day: "FAULTS CAST, NULL, INDEX", ahead of "STATE: there is no HOUSE"; "that are cells of a SHEET from i on (2 n)". */
    private static void dayFaults() {
        Refusals full = new Refusals(check, "full", Made::full);
        Refusals houseless = new Refusals(check, "houseless", Made::houseless);
        for (Refusals r : new Refusals[] {full, houseless}) {
            for (int lane : new int[] {0, 2}) {
                r.named("day(2, " + lane + ", 0, 1, 0)", x -> x.day(2, lane, 0, 1, 0), -12, 2);
                r.named("day(2, " + lane + ", -1, 20, 1)", x -> x.day(2, lane, -1, 20, 1), -12, 2);
                r.named("day(2, " + lane + ", 0, 0, 13)", x -> x.day(2, lane, 0, 0, 13), -12, 2);
                r.named("day(3, " + lane + ", 0, 0, 0)", x -> x.day(3, lane, 0, 0, 0), -11, 1);
            }
            r.named("day(3, 1, -1, 20, 0)", x -> x.day(3, 1, -1, 20, 0), -11, 1);
            for (int i : new int[] {-1, -2, 11, MIN, MAX, MAX - 1}) {
                r.named("day(2, 1, " + i + ", 0, 0)", x -> x.day(2, 1, i, 0, 0), -13, 3);
                r.named("day(2, 1, " + i + ", 1, 0)", x -> x.day(2, 1, i, 1, 0), -13, 3);
                r.named("day(2, 1, " + i + ", 20, 1)", x -> x.day(2, 1, i, 20, 1), -13, 3);
            }
            r.named("day(2, 1, 0, 6, 0)", x -> x.day(2, 1, 0, 6, 0), -13, 3);
            r.named("day(2, 1, 9, 1, 0)", x -> x.day(2, 1, 9, 1, 0), -13, 3);
            r.named("day(2, 1, 10, 1, 0)", x -> x.day(2, 1, 10, 1, 0), -13, 3);
        }
        Refusals small = new Refusals(check, "small", Made::small);
        small.named("day(2, 1, 1, 0, 0)", x -> x.day(2, 1, 1, 0, 0), -13, 3);
        small.named("day(2, 1, 0, 1, 0)", x -> x.day(2, 1, 0, 1, 0), -13, 3);
        // Three cells are one pair and a half: one pair alone is there.
        LoadCycles x = Made.small();
        Check.fill(x, 3, 0, 5, 0, 5);
        check.due("one pair of three cells", x.day(3, 0, 0, 1, 1), -9);
        check.due("two pairs of three cells", x.day(3, 0, 0, 2, 1), -13);
        check.due("one pair from the third cell on", x.day(3, 0, 2, 1, 1), -13);
    }

    /** day: "STATE: there is no HOUSE", ahead of the pairs. */
    private static void dayState() {
        Refusals houseless = new Refusals(check, "houseless", Made::houseless);
        houseless.named("day(2, 1, 0, 3, 0)", x -> x.day(2, 1, 0, 3, 0), -3, 0);
        houseless.named("day(2, 1, 0, 3, 1)", x -> x.day(2, 1, 0, 3, 1), -3, 0);
        houseless.named("day(2, 1, 0, 0, 13)", x -> x.day(2, 1, 0, 0, 13), -3, 0);
        houseless.named("day(2, 1, 6, 1, 0)", x -> x.day(2, 1, 6, 1, 0), -3, 0);
    }

    /** day: "pair by pair (all of them, ahead of any act) OUTSIDE: the second is not 0 .. 11, 20, 30 .. 49, the first is not as told". */
    private static void dayPairsOutside() {
        int[][] outside = {{1, -1}, {1, 12}, {1, 19}, {1, 21}, {1, 29}, {1, 50}, {1, MIN}, {1, MAX}, {0, 0}, {10, 0}, {-1, 0}, {0, 11},
            {10, 11}, {MIN, 5}, {MAX, 5}, {-1, 20}, {100, 20}, {MIN, 20}, {MAX, 20}, {-1, 30}, {100, 30}, {-1, 49}, {100, 49},
            {1 << 16, 20}, {1, 1 << 16}, {1 << 8, 20}, {1, 20 + (1 << 8)}};
        for (int[] pair : outside) {
            int[][] days = {pair, {5, 0, pair[0], pair[1]}, {pair[0], pair[1], 5, 0}, {1, 11, 99, 20, pair[0], pair[1], 5, 0}};
            for (int[] day : days) {
                Refusals r = new Refusals(check, "pairs " + Arrays.toString(day), () -> {
                    LoadCycles x = Made.small();
                    Check.fill(x, 2, 2, day);
                    return x;
                });
                r.named("day, asked 0", x -> x.day(2, 2, 0, day.length / 2, 0), -2, 0);
                r.named("day, asked 1", x -> x.day(2, 2, 0, day.length / 2, 1), -2, 0);
                r.named("day, asked 13", x -> x.day(2, 2, 0, day.length / 2, 13), -2, 0);
            }
        }
        // A pair beyond the n that are taken does not count.
        LoadCycles x = Made.small();
        Check.fill(x, 2, 2, 5, 0, 0, 0);
        check.due("the first pair alone", x.day(2, 2, 0, 1, 1), -9);
        check.due("both pairs", x.day(2, 2, 0, 2, 1), -2);
    }
}
