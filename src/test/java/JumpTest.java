/** Promises 13 to 17: jump, ways, longest, share, mean. */
public final class JumpTest {
    private static final int MIN = Integer.MIN_VALUE, MAX = Integer.MAX_VALUE;
    private static final Check check = new Check();

    public static void main(String[] args) {
        jumps();
        ways();
        longest();
        shares();
        means();
        refusals();
        check.end();
    }

    private static void jumps() {
        LoadCycles x = Check.of("u;P5", 3, 3, 99, 4, 4, 50);
        int[] due = {100, 196, 5, 100, 146};
        for (int t = 0; t < due.length; t++) {
            check.due("jump(" + t + ")", x.jump(t), due[t]);
        }
        x.base(0);
        check.due("jump(0) from base 0", x.jump(0), 103);
        check.due("jump(1) from base 0", x.jump(1), 196);
        check.due("the greatest jump", Check.of("u;P5", 0, 99, 0).jump(0), 199);
        check.due("the least jump", Check.of("u;P5", 0, 99, 0).jump(1), 1);
    }

    private static void ways() {
        LoadCycles x = Check.of("u;P2;P3;P5;H4", 1, 6, 6, 1, 11, 12);
        // 5 is 2 and 3, or the third one, or the fourth one (4 and 1).
        check.due("ways(0)", x.ways(0), 3);
        check.due("at(0, 3)", x.at(0, 3), 1);
        // 0: the set of none; less 5 and more 5, or less 5 and more 2 and 3.
        check.due("ways(1)", x.ways(1), 3);
        check.due("at(1, 3)", x.at(1, 3), 1);
        // Less 5: just the fourth one goes off.
        check.due("ways(2)", x.ways(2), 1);
        // 10: the third and fourth, or one of them and 2 and 3.
        check.due("ways(3)", x.ways(3), 3);
        check.due("at(3, 2) and at(3, 3)", x.at(3, 2) * 10 + x.at(3, 3), 11);
        // 1 is no difference of what can go on.
        check.due("ways(4)", x.ways(4), 0);
        x = Check.of("u;P4;P4;P4;P4", 0, 8, 8);
        check.due("ways of two of four", x.ways(0), 6);
        check.due("ways of as many on as off", x.ways(1), 6);
        x = Check.of("u;P9;P9", 3, 3, 5);
        check.due("ways of none", x.ways(0), 1);
        check.due("no ways", x.ways(1), 0);
        // From its last level it goes on to off; from the first one to the second.
        x = Check.of("u;P85;H1", 0, 8, 5, 0);
        check.due("ways from level 0", x.ways(1), 1);
        check.due("ways from level 1", x.ways(2), 1);
        // A way may be one that the meter does not allow.
        x = Check.of("u;P19;D5", 0, 0, 1, 9);
        check.due("ways(2)", x.ways(2), 1);
    }

    private static void longest() {
        LoadCycles x = Check.of("u;P9;P55", 0, 9, 9, 0, 9, 9, 9, 0, 5, 5, 5, 5);
        check.due("longest(0)", x.longest(0), 3);
        check.due("longest(1)", x.longest(1), 4);
        x = Check.of("u;P123;H9", 0, 1, 2, 3, 0, 1);
        check.due("through all levels", x.longest(0), 3);
        check.due("never on", x.longest(1), 0);
        check.due("empty", Check.of("u;P1", 0).longest(0), 0);
        int[] values = new int[20];
        java.util.Arrays.fill(values, 7);
        check.due("always on", Check.of("u;P7", 0, values).longest(0), 20);
    }

    private static void shares() {
        check.due("a third", Check.of("u;P1", 0, 1, 2).share(0), Float.floatToIntBits(2f / 3f));
        check.due("all", Check.of("u;P4", 0, 4, 4).share(0), Float.floatToIntBits(1f));
        check.due("none", Check.of("u;P4", 0, 3).share(0), 0);
        check.due("no values", Check.of("u;P4", 0, 0, 0).share(0), 0);
        check.due("empty", Check.of("u;P4", 0).share(0), 0);
        check.due("a base", Check.of("u;P4", 3, 7, 3).share(0), Float.floatToIntBits(4f / 10f));
        for (int total = 1; total <= 99; total++) {
            for (int v = 1; v <= 9; v++) {
                int energy = v <= total ? v : 0;
                check.due("share " + v + " of " + total, Check.of("u;P" + v, 0, total).share(0),
                    Float.floatToIntBits((float) energy / (float) total));
            }
        }
        int[] values = new int[20];
        for (int on = 0; on <= 20; on++) {
            for (int t = 0; t < 20; t++) {
                values[t] = t < on ? 91 + t % 9 : 7;
            }
            LoadCycles x = Check.of("u;D9", 0, values);
            int all = 0;
            for (int value : values) {
                all += value;
            }
            check.due("share of many " + on, x.share(0), Float.floatToIntBits((float) x.energy(0) / (float) all));
        }
    }

    private static void means() {
        check.due("mean of 0", Check.of("u;P4", 0, 0, 0, 0).mean(), 0);
        check.due("mean of 99", Check.of("u;P4", 0, 99).mean(), Double.doubleToLongBits(99.0));
        for (int n = 1; n <= 20; n++) {
            int[] values = new int[n];
            for (int all = 0; all <= 99 * n; all += all < 120 ? 1 : 7) {
                for (int t = 0; t < n; t++) {
                    values[t] = Math.max(0, Math.min(99, all - 99 * t));
                }
                check.due("mean " + all + " by " + n, Check.of("u;P4", 0, values).mean(), Double.doubleToLongBits((double) all / (double) n));
            }
        }
        check.due("empty mean", Check.of("u;P4", 0).mean(), Long.MIN_VALUE);
        check.due("new mean", new LoadCycles().mean(), Long.MIN_VALUE);
        check.due("LOST", LoadCycles.LOST, Long.MIN_VALUE);
    }

    private static void refusals() {
        LoadCycles x = Check.of("u;P5;H92", 0, 5, 6);
        for (int bad : new int[] {-1, 2, MIN, MAX}) {
            check.due("jump(" + bad + ")", x.jump(bad), -1);
            check.due("ways(" + bad + ")", x.ways(bad), -1);
            check.due("longest(" + bad + ")", x.longest(bad), -1);
            check.due("share(" + bad + ")", x.share(bad), -1);
        }
    }
}
