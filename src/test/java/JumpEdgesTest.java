import java.util.Arrays;

/** The edges of part 3 and of promises 13 to 17; above each test stand the document's words that it is of. */
public final class JumpEdgesTest {
    private static final int MIN = Made.MIN, MAX = Made.MAX;
    private static final long LOST = Made.LOST;
    private static final Check check = new Check();

    public static void main(String[] args) {
        jumpOfTimeZero();
        jumpsAtTheirEdges();
        waysOfNone();
        waysAheadOfTimeZero();
        waysOfAll();
        waysRoundTheRing();
        waysByPowersAlone();
        noWays();
        longestAtItsEdges();
        longestRunsFromOneTimeToTheNext();
        shareOfNoValues();
        shareAtItsEdges();
        shareToTheBit();
        meanAtItsEdges();
        meanToTheBit();
        meanOfNone();
        timesUnknown();
        appliancesUnknown();
        check.end();
    }

    /** "JUMP of a TIME: its VALUE less that of the TIME ahead (of TIME 0: less BASE)." */
    private static void jumpOfTimeZero() {
        LoadCycles x = Check.of("u;P5", 7, 7, 20);
        check.due("jump(0) of the base", x.jump(0), 100);
        check.due("jump(1)", x.jump(1), 113);
        x.base(0);
        check.due("jump(0) less 0", x.jump(0), 107);
        check.due("jump(1) is not of the base", x.jump(1), 113);
    }

    /** jump: "JUMP of a TIME, and 100." */
    private static void jumpsAtTheirEdges() {
        LoadCycles x = Check.of("u;P5", 0, 99, 0, 99, 99, 0, 0);
        int[] due = {199, 1, 199, 100, 1, 100};
        for (int t = 0; t < due.length; t++) {
            check.due("jump(" + t + ")", x.jump(t), due[t]);
        }
        int[] values = new int[20];
        for (int t = 0; t < 20; t++) {
            values[t] = 99 - 5 * t;
        }
        x = Check.of("u;P5", 4, values);
        check.due("jump(0) of twenty", x.jump(0), 195);
        for (int t = 1; t < 20; t++) {
            check.due("jump(" + t + ") of twenty", x.jump(t), 95);
        }
    }

    /** "sets of APPLIANCES (perhaps of none)". */
    private static void waysOfNone() {
        LoadCycles x = Check.of("u;P5;H9;D4;P1", 3, 3, 3);
        check.due("ways(0) of no jump", x.ways(0), 1);
        check.due("ways(1) of no jump", x.ways(1), 1);
        x = Check.of("u;P5", 0, 5, 5);
        check.due("the one that is on stays", x.ways(1), 1);
    }

    /** "(all off, ahead of TIME 0)". */
    private static void waysAheadOfTimeZero() {
        LoadCycles x = Check.of("u;P59", 0, 5);
        check.due("the first level", x.ways(0), 1);
        x = Check.of("u;P59", 0, 9);
        check.due("not the second level", x.ways(0), 0);
        // The state at the last time must not be taken for the one ahead of time 0.
        x = Check.of("u;P5;P5", 0, 5, 10);
        check.due("either of two", x.ways(0), 2);
        check.due("the other one", x.ways(1), 1);
    }

    /** "WAYS of a TIME: sets of APPLIANCES": of four all 16 sets are tried. */
    private static void waysOfAll() {
        check.due("all four", Check.of("u;P1;P2;P4;P8", 0, 15).ways(0), 1);
        for (int jump = 0; jump < 16; jump++) {
            check.due("jump " + jump, Check.of("u;P1;P2;P4;P8", 0, jump).ways(0), 1);
        }
        int[] choose = {1, 4, 6, 4, 1};
        for (int n = 0; n <= 4; n++) {
            check.due(n + " of four alike", Check.of("u;D9;D9;D9;D9", 0, 18 * n).ways(0), choose[n]);
        }
        LoadCycles x = Check.of("u;P5;P5;P5;P5", 0, 20, 0);
        check.due("all go off", x.ways(1), 1);
    }

    /** "if just these go on by one from how they are in BEST at the TIME ahead": from the last LEVEL to off, too. */
    private static void waysRoundTheRing() {
        LoadCycles x = Check.of("u;P852", 0, 8, 5, 2, 0, 8);
        for (int t = 0; t < 5; t++) {
            check.due("ways(" + t + ")", x.ways(t), 1);
        }
        // From level 0 to level 1 that is alike: going on and staying make the same.
        x = Check.of("u;P55", 0, 5, 5);
        check.due("staying, or going on", x.ways(1), 2);
        // Less and more at once: one goes off, the other one on.
        x = Check.of("u;P5;P5", 0, 5, 5);
        check.due("staying, or both", x.ways(1), 2);
    }

    /** "make POWERS together more (or less) by just the JUMP": by powers; what was left ahead stays left. */
    private static void waysByPowersAlone() {
        LoadCycles x = Check.of("u;P4;P3", 0, 8, 4);
        check.due("rest(0)", x.rest(0), 1);
        check.due("less by 4", x.ways(1), 1);
        // A DOUBLE one's power is twice, a HEAVY one's 1 more.
        check.due("18", Check.of("u;P9;H9;D9", 0, 18).ways(0), 1);
        check.due("10", Check.of("u;P9;H9;D9", 0, 10).ways(0), 1);
        check.due("9", Check.of("u;P9;H9;D9", 0, 9).ways(0), 1);
        check.due("the base is no power", Check.of("u;P9", 5, 14).ways(0), 1);
    }

    /** ways: "how many": perhaps none. */
    private static void noWays() {
        LoadCycles x = Check.of("u;P9", 0, 99, 0, 8);
        check.due("too much", x.ways(0), 0);
        check.due("too much less", x.ways(1), 0);
        check.due("too little", x.ways(2), 0);
    }

    /** "LONGEST of an APPLIANCE: the most TIMES one behind another at which it is not off in BEST." */
    private static void longestAtItsEdges() {
        int[] values = new int[20];
        LoadCycles x = Check.of("u;P9", 0, values);
        check.due("never on", x.longest(0), 0);
        values[0] = 9;
        check.due("at the first time alone", Check.of("u;P9", 0, values).longest(0), 1);
        values[0] = 0;
        values[19] = 9;
        check.due("at the last time alone", Check.of("u;P9", 0, values).longest(0), 1);
        Arrays.fill(values, 9);
        check.due("always on", Check.of("u;P9", 0, values).longest(0), 20);
        values[10] = 0;
        check.due("the first stretch", Check.of("u;P9", 0, values).longest(0), 10);
        values[10] = 9;
        values[0] = 0;
        check.due("to the last time", Check.of("u;P9", 0, values).longest(0), 19);
        check.due("no times", Made.timeless().longest(0), 0);
    }

    /** "one behind another": through several LEVELS, but not through off. */
    private static void longestRunsFromOneTimeToTheNext() {
        LoadCycles x = Check.of("u;P654;P9", 0, 6, 5, 4, 0, 6, 5, 5, 4, 0, 9, 9, 0, 9);
        check.due("through its levels", x.longest(0), 4);
        check.due("two, then one", x.longest(1), 2);
    }

    /** "SHARE of an APPLIANCE: .. as a FLOAT (0, if these are 0)." */
    private static void shareOfNoValues() {
        check.due("values of 0", Check.of("u;P1", 0, 0, 0, 0).share(0), 0);
        check.due("no values", Check.of("u;P1", 0).share(0), 0);
        check.due("no energy", Check.of("u;P9", 0, 8, 8).share(0), 0);
        check.due("all is the base", Check.of("u;P1", 99, 99).share(0), 0);
    }

    /** share: "its ENERGY by all VALUES together": the base's part of the VALUES, too. */
    private static void shareAtItsEdges() {
        int[] values = new int[20];
        Arrays.fill(values, 18);
        check.due("the whole", Check.of("u;D9", 0, values).share(0), Float.floatToIntBits(1f));
        Arrays.fill(values, 99);
        LoadCycles x = Check.of("u;D9;D9;D9;D9", 27, values);
        for (int a = 0; a < 4; a++) {
            check.due("18 by 99", x.share(a), Float.floatToIntBits(18f / 99f));
        }
        // The least above 0 that there can be: 1, at just one time, by nearly all that a meter can hold.
        Arrays.fill(values, 98);
        values[0] = 99;
        LoadCycles least = Check.of("u;P1", 98, values);
        check.due("1 by 1961", least.share(0), Float.floatToIntBits(1f / 1961f));
        check.due("energy 1", least.energy(0), 1);
    }

    /** "FLOATS as the bits of that number of single precision .. that is nearest to what is told". */
    private static void shareToTheBit() {
        // Energies 1 to 20 by sums up to 1980: some are rounded up, some down.
        for (int on = 1; on <= 20; on++) {
            for (int last = 0; last < 99; last += 7) {
                int[] values = new int[20];
                int all = 0;
                for (int t = 0; t < 20; t++) {
                    values[t] = t < on ? 1 + (last * (t + 3)) % 99 : 0;
                    all += values[t];
                }
                LoadCycles x = Check.of("u;P1", 0, values);
                float nearest = (float) ((double) x.energy(0) / all);
                check.due("energy " + on + " times", x.energy(0), on);
                check.due("share " + on + " by " + all, x.share(0), Float.floatToIntBits(nearest));
            }
        }
        check.due("a third is rounded up", Check.of("u;P1", 0, 3).share(0), 0x3eaaaaab);
        check.due("two thirds are rounded up", Check.of("u;P2", 0, 3).share(0), 0x3f2aaaab);
        check.due("a tenth is rounded up", Check.of("u;P1", 0, 10).share(0), 0x3dcccccd);
        check.due("5 by 6 is rounded down", Check.of("u;P5", 0, 6).share(0), 0x3f555555);
        check.due("1 by 25 is rounded down", Check.of("u;P1", 0, 25).share(0), 0x3d23d70a);
        check.due("a half is as it is", Check.of("u;P1", 0, 2).share(0), 0x3f000000);
    }

    /** "MEAN: all VALUES by how many there are, as a DOUBLE." */
    private static void meanAtItsEdges() {
        int[] values = new int[20];
        check.due("0", Check.of("u;P1", 0, values).mean(), 0L);
        check.due("0 of one", Check.of("u;P1", 0, 0).mean(), 0L);
        values[19] = 1;
        check.due("1 by 20", Check.of("u;P1", 0, values).mean(), 0x3fa999999999999aL);
        Arrays.fill(values, 99);
        check.due("99", Check.of("u;P1", 0, values).mean(), 0x4058c00000000000L);
        check.due("the base counts", Check.of("u;P1", 99, values).mean(), 0x4058c00000000000L);
        check.due("1", Check.of("u;P1", 0, 1).mean(), 0x3ff0000000000000L);
    }

    /** "DOUBLES of double precision, that is nearest to what is told". */
    private static void meanToTheBit() {
        check.due("1 by 3", Check.of("u;P1", 0, 0, 0, 1).mean(), 0x3fd5555555555555L);
        check.due("2 by 3", Check.of("u;P1", 0, 1, 0, 1).mean(), 0x3fe5555555555555L);
        check.due("5 by 3", Check.of("u;P1", 0, 1, 3, 1).mean(), 0x3ffaaaaaaaaaaaabL);
        for (int n = 1; n <= 20; n++) {
            for (int all = 0; all <= 99 * n; all += 1 + n / 2) {
                int[] values = new int[n];
                for (int t = 0; t < n; t++) {
                    values[t] = all / n + (t < all % n ? 1 : 0);
                }
                long due = Double.doubleToLongBits((double) all / n);
                check.due("mean " + all + " by " + n, Check.of("u;P1", 0, values).mean(), due);
            }
        }
    }

    /** mean: "LOST: STATE: the METER is empty." */
    private static void meanOfNone() {
        new Refusals(check, "new", LoadCycles::new).unnamed("mean()", x -> x.mean(), LOST);
        new Refusals(check, "houseless", Made::houseless).unnamed("mean()", x -> x.mean(), LOST);
        new Refusals(check, "timeless", Made::timeless).unnamed("mean()", x -> x.mean(), LOST);
    }

    /** jump, ways: "UNKNOWN." */
    private static void timesUnknown() {
        Refusals full = new Refusals(check, "full", Made::full);
        Refusals small = new Refusals(check, "small", Made::small);
        Refusals timeless = new Refusals(check, "timeless", Made::timeless);
        for (int t : new int[] {-1, 20, MIN, MAX}) {
            full.unnamed("jump(" + t + ")", x -> x.jump(t), -1);
            full.unnamed("ways(" + t + ")", x -> x.ways(t), -1);
        }
        small.unnamed("jump(3)", x -> x.jump(3), -1);
        small.unnamed("ways(3)", x -> x.ways(3), -1);
        timeless.unnamed("jump(0)", x -> x.jump(0), -1);
        timeless.unnamed("ways(0)", x -> x.ways(0), -1);
    }

    /** longest, share: "UNKNOWN." */
    private static void appliancesUnknown() {
        Refusals full = new Refusals(check, "full", Made::full);
        Refusals small = new Refusals(check, "small", Made::small);
        Refusals houseless = new Refusals(check, "houseless", Made::houseless);
        for (int a : new int[] {-1, 4, MIN, MAX}) {
            full.unnamed("longest(" + a + ")", x -> x.longest(a), -1);
            full.unnamed("share(" + a + ")", x -> x.share(a), -1);
        }
        small.unnamed("longest(2)", x -> x.longest(2), -1);
        small.unnamed("share(2)", x -> x.share(2), -1);
        houseless.unnamed("longest(0)", x -> x.longest(0), -1);
        houseless.unnamed("share(0)", x -> x.share(0), -1);
    }
}
