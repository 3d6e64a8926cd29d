/** Promises 8 to 12: at, rest, best, energy, day. */
public final class BestTest {
    private static final int MIN = Integer.MIN_VALUE, MAX = Integer.MAX_VALUE;
    private static final Check check = new Check();

    public static void main(String[] args) {
        ringOfLevels();
        leastRestComesFirst();
        fewestChangesComeNext();
        lesserStateComesLast();
        numbersOfBest();
        refusals();
        dayAnswers();
        dayFirstWrong();
        dayChangesNothing();
        dayRefusals();
        check.end();
    }

    private static void at(LoadCycles x, String name, int a, int... states) {
        for (int t = 0; t < states.length; t++) {
            check.due(name + " at(" + t + ", " + a + ")", x.at(t, a), states[t]);
        }
    }

    private static void ringOfLevels() {
        LoadCycles x = Check.of("u;P731", 0, 7, 3, 1, 0, 7, 7, 3);
        at(x, "a ring", 0, 1, 2, 3, 0, 1, 1, 2);
        x = Check.of("u;H731", 0, 8, 4, 2, 0, 8);
        at(x, "a heavy ring", 0, 1, 2, 3, 0, 1);
        x = Check.of("u;D731", 0, 14, 6, 2, 0, 14);
        at(x, "a double ring", 0, 1, 2, 3, 0, 1);
        x = Check.of("u;P9", 1, 10, 1, 10, 9);
        at(x, "one level", 0, 1, 0, 1, 0);
        check.due("rest(3)", x.rest(3), 8);
        // From its second level it must go through off, so the value 3 at time 2 can't be its first level again.
        x = Check.of("u;P32", 0, 3, 2, 3);
        at(x, "no way back", 0, 1, 2, 2);
        check.due("rest(2)", x.rest(2), 1);
    }

    private static void leastRestComesFirst() {
        // On at time 0 explains 2 there, but at its second level (9) it would be too much at time 1.
        LoadCycles x = Check.of("u;P29", 0, 2, 1, 9);
        at(x, "not above the meter", 0, 0, 0, 1);
        // It can't go through off to its first level within one time.
        x = Check.of("u;P93", 0, 9, 3, 9, 9, 9);
        at(x, "one step at a time", 0, 1, 2, 0, 1, 1);
        // More changes, but less rest.
        x = Check.of("u;P5;P4", 0, 5, 4, 5, 4);
        at(x, "less rest", 0, 1, 0, 1, 0);
        at(x, "less rest", 1, 0, 1, 0, 1);
        check.due("changes", x.best(1), 7);
        check.due("rests", x.best(0), 0);
    }

    private static void fewestChangesComeNext() {
        // Either way explains all; one level of 5 takes one change, two appliances take two.
        LoadCycles x = Check.of("u;P2;P3;P5", 0, 5, 5);
        at(x, "fewest changes", 0, 0, 0);
        at(x, "fewest changes", 1, 0, 0);
        at(x, "fewest changes", 2, 1, 1);
        check.due("changes", x.best(1), 1);
        // What must change later counts as well: from 6 to 3 the first one needs one change, the others two.
        x = Check.of("u;P63;P6;P3", 0, 6, 3);
        at(x, "later changes", 0, 1, 2);
        check.due("later changes", x.best(1), 2);
        // Two that go on at one time are two changes: not the lesser state of the first one, but one change.
        x = Check.of("u;P5;P2;P3", 0, 5);
        at(x, "changes at one time", 0, 1);
        at(x, "changes at one time", 1, 0);
        at(x, "changes at one time", 2, 0);
        check.due("changes at one time", x.best(1), 1);
        // Going off is a change, too: all off at time 2 would leave as much in all, by seven changes.
        x = Check.of("u;P4;P21", 0, 3, 5, 2, 6);
        at(x, "going off", 0, 0, 1, 0, 1);
        at(x, "going off", 1, 1, 2, 2, 2);
        check.due("rests", x.best(0), 3);
        check.due("changes", x.best(1), 5);
        // Staying at an equal level is no change.
        x = Check.of("u;P55", 0, 5, 5, 5);
        at(x, "stays", 0, 1, 1, 1);
        check.due("changes", x.best(1), 1);
    }

    private static void lesserStateComesLast() {
        LoadCycles x = Check.of("u;P4;P4", 0, 4);
        at(x, "the last appliance", 0, 0);
        at(x, "the last appliance", 1, 1);
        // Both ends tell the same: the first time that differs decides, not the last.
        x = Check.of("u;P3;P3;P3", 0, 3, 6, 6);
        at(x, "three alike", 0, 0, 0, 0);
        at(x, "three alike", 1, 0, 1, 1);
        at(x, "three alike", 2, 1, 1, 1);
        // The level with the lesser number, for as long as the next one tells the same.
        x = Check.of("u;P44;P1", 0, 4, 4, 4, 0);
        at(x, "lesser level", 0, 1, 1, 2, 0);
        x = Check.of("u;P2;P11", 0, 1, 1);
        at(x, "stay at level 0", 1, 1, 1);
    }

    private static void numbersOfBest() {
        LoadCycles x = Check.of("u;P5;H92;D437", 2, 2, 2, 7, 17, 17, 12, 20, 12, 5, 2, 13, 16, 2);
        int[] best = {10, 12, 5, 91};
        for (int what = 0; what < 4; what++) {
            check.due("best(" + what + ")", x.best(what), best[what]);
        }
        int[] energies = {25, 66, 0};
        int rests = 0;
        for (int a = 0; a < 3; a++) {
            check.due("energy(" + a + ")", x.energy(a), energies[a]);
        }
        int meter = 0;
        for (int t = 0; t < 13; t++) {
            rests += x.rest(t);
            meter += x.value(t);
        }
        check.due("rests", rests, 10);
        check.due("rests, energies and base", rests + 91 + 13 * 2, meter);
        x = Check.of("u;P9", 0, 9, 0, 9, 0, 9);
        check.due("starts", x.best(2), 3);
        check.due("changes", x.best(1), 5);
        x = Check.of("u;P1", 0);
        for (int what = 0; what < 4; what++) {
            check.due("empty best(" + what + ")", x.best(what), 0);
        }
        x = Check.of("u;P9;P9;P9;P9", 0, 99, 0, 99, 0, 99, 0, 99, 0, 99, 0, 99, 0, 99, 0, 99, 0, 99, 0, 99, 0);
        check.due("most changes", x.best(1), 80);
        check.due("most starts", x.best(2), 40);
        check.due("most rests", x.best(0), 10 * 63);
        for (int t = 0; t < 20; t++) {
            check.due("rest(" + t + ") of four", x.rest(t), t % 2 == 0 ? 63 : 0);
        }
        check.due("a smaller house", Check.house(x, "u;P8"), 1);
        check.due("its meter", Check.meter(x, 9, 3), 2);
        check.due("rest(0) of a smaller house", x.rest(0), 1);
        check.due("rest(1) of a smaller house", x.rest(1), 3);
        check.due("changes of a smaller house", x.best(1), 2);
        check.due("energies of a smaller house", x.best(3), 8);
    }

    private static void refusals() {
        LoadCycles x = Check.of("u;P5;H92", 0, 5, 6);
        for (int bad : new int[] {-1, 2, MIN, MAX}) {
            check.due("at(" + bad + ", 0)", x.at(bad, 0), -1);
            check.due("at(0, " + bad + ")", x.at(0, bad), -1);
            check.due("rest(" + bad + ")", x.rest(bad), -1);
            check.due("energy(" + bad + ")", x.energy(bad), -1);
        }
        for (int what : new int[] {-1, 4, MIN, MAX}) {
            check.due("best(" + what + ")", x.best(what), -2);
            check.due("new best(" + what + ")", new LoadCycles().best(what), -2);
        }
        for (int what = 0; what < 4; what++) {
            check.due("new best(" + what + ")", new LoadCycles().best(what), -3);
        }
    }

    private static void dayAnswers() {
        LoadCycles x = Check.of("u;P5;H3", 1, 6, 10, 1);
        int[] whats = {0, 1, 2, 3, 4, 10, 11, 12, 13};
        int[][] due = {{0, -9, 4, 2, 14, 10, 4, -9, -9}, {2, -9, 4, 2, 12, 4, 8, -9, -9}};
        int[][] days = {{}, {4, 0}, {0, 20, 6, 30, 4, 0, 1, 20, 4, 0, 1, 20, 9, 31, 10, 31, 4, 0}};
        for (int w = 0; w < whats.length; w++) {
            check.due("day none, " + whats[w], Check.day(x, whats[w], days[0]), due[0][w]);
            check.due("day one, " + whats[w], Check.day(x, whats[w], days[1]), due[1][w]);
            check.due("day long, " + whats[w], Check.day(x, whats[w], days[2]), due[1][w]);
        }
        check.due("day of the base", Check.day(x, 0, 0, 20), 3);
        check.due("day of a value", Check.day(x, 4, 1, 31), 5);
        check.due("day of a value's energy", Check.day(x, 10, 1, 31), 5);
        check.due("fault of a day", x.fault(), 0);
    }

    private static void dayFirstWrong() {
        int[][] wrongs = {{1, 1}, {1, 2}, {1, 5}, {1, 6}, {1, 9}, {1, 11}, {3, 20}, {99, 20}, {1, 30}, {0, 31}, {5, 33}, {5, 49}};
        int[] whats = {0, 2, 3, 4, 10, 13};
        for (int[] act : wrongs) {
            String name = "act " + act[0] + " " + act[1];
            LoadCycles x = wrongHouse();
            check.due(name, Check.day(x, 1, act), 0);
            check.due(name + " as second", Check.day(x, 1, 5, 0, act[0], act[1]), 1);
            check.due(name + " as second of two", Check.day(x, 1, 5, 0, act[0], act[1], 1, 1), 1);
            for (int what : whats) {
                check.due(name + ", " + what, Check.day(x, what, act), -100);
                check.due(name + " as second, " + what, Check.day(x, what, 5, 0, act[0], act[1]), -101);
            }
        }
        LoadCycles x = wrongHouse();
        int[][] fine = {{1, 0}, {9, 3}, {9, 4}, {2, 20}, {0, 20}, {2, 30}, {99, 32}};
        for (int[] act : fine) {
            check.due("act " + act[0] + " " + act[1], Check.day(x, 1, act), -9);
        }
        check.due("a base that an act allows", Check.day(x, 1, 3, 32, 3, 20), -9);
        check.due("a base that comes too soon", Check.day(x, 1, 3, 20, 3, 32), 0);
        check.due("a value that an act allows", Check.day(x, 1, 1, 20, 1, 30), -9);
        check.due("a value that comes too soon", Check.day(x, 1, 1, 30, 1, 20), 0);
        check.due("the base then", Check.day(x, 1, 2, 32, 7, 32, 7, 20, 6, 32), 3);
        int[] twenty = new int[40];
        for (int p = 0; p < 20; p++) {
            twenty[2 * p] = 5;
        }
        twenty[39] = 1;
        check.due("the last of twenty", Check.day(x, 0, twenty), -119);
        LoadCycles empty = Check.of("u;P5", 0);
        check.due("any base of an empty meter", Check.day(empty, 1, 99, 20), -9);
        check.due("no time of an empty meter", Check.day(empty, 1, 99, 30), 0);
        check.due("an empty meter", Check.day(empty, 0, 99, 20), 0);
    }

    private static LoadCycles wrongHouse() {
        return Check.of("u;P5;H34", 2, 7, 10, 2);
    }

    private static void dayChangesNothing() {
        LoadCycles x = Check.of("u;P5;H3", 1, 6, 10, 1);
        check.due("energy", x.energy(0), 10);
        check.due("a day", Check.day(x, 10, 1, 0, 0, 20, 99, 30), 3);
        check.due("a wrong day", Check.day(x, 10, 1, 0, 0, 20, 99, 49), -102);
        check.due("told", x.ofAppliance(0, 10), 5);
        check.due("base", x.many(3), 1);
        check.due("value", x.value(0), 6);
        check.due("energy after", x.energy(0), 10);
        check.due("at after", x.at(0, 0), 1);
    }

    private static void dayRefusals() {
        LoadCycles x = new LoadCycles();
        Check.fill(x, 2, 1, 5, 0, 0, 0, 5);
        check.due("day without a house", x.day(2, 1, 0, 1, 0), -3);
        check.due("bad pairs without a house", x.day(2, 1, 2, 1, 0), -3);
        check.due("fault without a house", x.day(2, 1, 0, 3, 0), -13);
        Check.house(x, "u;P5");
        check.due("day(-1, ..)", x.day(-1, 3, 0, 21, 9), -1);
        check.due("day(4, ..)", x.day(4, 1, 0, 0, 0), -1);
        check.due("day lane -1", x.day(2, -1, 0, 0, 0), -2);
        check.due("day lane 3", x.day(2, 3, 0, 0, 0), -2);
        check.due("day n -1", x.day(3, 1, 0, -1, 0), -2);
        check.due("day n 21", x.day(3, 1, 0, 21, 0), -2);
        check.due("day n MIN", x.day(3, 1, 0, MIN, 0), -2);
        for (int what : new int[] {-1, 5, 9, 14, MIN, MAX}) {
            check.due("day what " + what, x.day(3, 1, 0, 1, what), -2);
        }
        check.due("day null", x.day(3, 1, 0, 1, 0), -11);
        check.due("its fault", x.fault(), 1);
        check.due("day cast", x.day(2, 0, 0, 9, 0), -12);
        check.due("its fault", x.fault(), 2);
        for (int[] cells : new int[][] {{-1, 0}, {6, 0}, {0, 3}, {4, 1}, {5, 1}, {2, 2}, {MAX, 1}, {MIN, 20}}) {
            check.due("day cells " + cells[0] + " " + cells[1], x.day(2, 1, cells[0], cells[1], 0), -13);
            check.due("its fault", x.fault(), 3);
        }
        check.due("no pairs at the end", x.day(2, 1, 5, 0, 1), -9);
        check.due("its fault", x.fault(), 0);
        int[][] bad = {{0, 0}, {10, 0}, {-1, 0}, {0, 11}, {10, 11}, {1, -1}, {1, 12}, {1, 19}, {-1, 20}, {100, 20}, {1, 21},
            {1, 29}, {-1, 30}, {100, 49}, {1, 50}, {5, MAX}, {5, MIN}, {MAX, 20}};
        for (int[] pair : bad) {
            check.due("pair " + pair[0] + " " + pair[1], Check.day(x, 1, pair), -2);
            check.due("its fault", x.fault(), 0);
            check.due("after a wrong act, pair " + pair[0] + " " + pair[1], Check.day(x, 1, 1, 9, pair[0], pair[1]), -2);
        }
    }
}
