import java.util.Random;

/** All promises: long runs of calls by a fixed seed, each answer compared with the oracle's. */
public final class OracleTest {
    private static final int[] EDGES = {Integer.MIN_VALUE, Integer.MAX_VALUE, -1, 0, 1, 2, 3, 4, 5, 8, 9, 10, 20, 21, 30, 49, 50, 59, 60, 61, 99, 100, 127,
        128, 255, 256, 2000, 2001};
    private static final int CALLS = 512;

    private final Check check = new Check();
    private final Random random;
    private final LoadCycles x = new LoadCycles();
    private final Oracle o = new Oracle();
    private final int run;
    private final int mostAppliances;
    private int calls;

    private OracleTest(int run) {
        this.run = run;
        random = new Random(20261118L * 31 + run);
        mostAppliances = run % 5 == 0 ? 4 : run % 2 == 0 ? 3 : 2;
    }

    public static void main(String[] args) {
        bothOraclesAgree();
        greatestHouses();
        int runs = args.length > 0 ? Integer.parseInt(args[0]) : 600;
        int wrong = 0;
        for (int run = 0; run < runs && wrong < 40; run++) {
            OracleTest test = new OracleTest(run);
            test.makeCalls();
            wrong += test.check.wrongs();
        }
        if (wrong != 0) {
            System.exit(1);
        }
    }

    private static void bothOraclesAgree() {
        Check check = new Check();
        Random random = new Random(7);
        for (int round = 0; round < 300; round++) {
            Oracle.Home home = new Oracle.Home();
            int n = 1 + random.nextInt(4);
            for (int a = 0; a < n; a++) {
                Oracle.Appliance appliance = new Oracle.Appliance();
                appliance.kind = random.nextInt(3);
                for (int k = random.nextInt(3); k >= 0; k--) {
                    appliance.levels.add(1 + random.nextInt(4));
                }
                home.appliances.add(appliance);
            }
            for (int t = random.nextInt(1 + 12 / n); t > 0; t--) {
                home.values.add(random.nextInt(20));
            }
            Oracle.Path all = Oracle.bestOfAll(home);
            Oracle.Path ends = Oracle.bestByEnds(home);
            check.due("oracles' way of " + home.key(), all.isBetterThan(ends) || ends.isBetterThan(all) ? 1 : 0, 0);
        }
        check.end();
    }

    /** Four appliances of three levels each, at twenty times: the most that there can be. */
    private static void greatestHouses() {
        Check check = new Check();
        Random random = new Random(11);
        for (int round = 0; round < 12; round++) {
            StringBuilder text = new StringBuilder("u");
            for (int a = 0; a < 4; a++) {
                text.append(';').append("PHD".charAt(random.nextInt(3)));
                for (int k = 0; k < 3; k++) {
                    text.append((char) ('1' + random.nextInt(9)));
                }
            }
            int[] values = random.ints(20, 0, round % 2 == 0 ? 100 : 40).toArray();
            compareWhole(check, text.toString(), values);
        }
        check.end();
    }

    private static void compareWhole(Check check, String text, int[] values) {
        LoadCycles x = Check.of(text, 0, values);
        Oracle o = new Oracle();
        o.sheet(0, 2, text.length());
        o.sheet(1, 2, values.length);
        for (int i = 0; i < text.length(); i++) {
            o.put(0, i, text.charAt(i));
        }
        for (int t = 0; t < values.length; t++) {
            o.put(1, t, values[t]);
        }
        o.house(0, 2, 0, text.length());
        o.meter(1, 2, 0, values.length);
        for (int t = 0; t < values.length; t++) {
            for (int a = 0; a < 4; a++) {
                check.due(text + " at(" + t + ", " + a + ")", x.at(t, a), o.at(t, a));
            }
            check.due(text + " ways(" + t + ")", x.ways(t), o.ways(t));
        }
        for (int what = 0; what < 4; what++) {
            check.due(text + " best(" + what + ")", x.best(what), o.best(what));
        }
    }

    private void due(String call, long got, long want) {
        calls++;
        // What an object answers to later calls is free.
        if (calls <= CALLS) {
            check.due("run " + run + ", call " + calls + ": " + call, got, want);
        }
    }

    private int any(int low, int high) {
        return low + random.nextInt(high - low + 1);
    }

    /** Mostly a number that is as told, now and then one at or beyond an edge. */
    private int some(int low, int high) {
        int luck = random.nextInt(30);
        if (luck == 0) {
            return EDGES[random.nextInt(EDGES.length)];
        }
        return luck < 3 ? any(low - 1, high + 1) : any(low, Math.max(low, high));
    }

    private void sheet(int k, int lane, int n) {
        due("sheet(" + k + ", " + lane + ", " + n + ")", x.sheet(k, lane, n), o.sheet(k, lane, n));
    }

    private void put(int k, int i, int v) {
        due("put(" + k + ", " + i + ", " + v + ")", x.put(k, i, v), o.put(k, i, v));
    }

    private void fill(int k, int lane, int[] cells) {
        sheet(k, lane, cells.length);
        for (int i = 0; i < cells.length; i++) {
            put(k, i, cells[i]);
        }
    }

    private void makeCalls() {
        for (int tries = 0; tries < 9 && o.many(0) == 0 && run % 10 != 9; tries++) {
            house();
        }
        meter();
        while (calls < CALLS) {
            if (o.many(1) == 0 && random.nextInt(3) != 0) {
                meter();
            }
            switch (random.nextInt(16)) {
                case 0: if (random.nextInt(3) == 0) { house(); } break;
                case 1: if (random.nextInt(2) == 0) { meter(); } break;
                case 2: change(); break;
                case 3: case 4: askTime(); break;
                case 5: case 6: askAppliance(); break;
                case 7: askAll(); break;
                case 8: day(); break;
                case 9: case 10: readings(); break;
                case 11: guesses(); break;
                case 12: case 13: sheets(); break;
                default: parts(); break;
            }
            if (random.nextInt(4) == 0) {
                due("fault()", x.fault(), o.fault());
            }
        }
    }

    private void house() {
        StringBuilder text = new StringBuilder("u");
        for (int n = Math.max(any(1, mostAppliances), any(1, mostAppliances)); n > 0; n--) {
            text.append(';').append("PHD".charAt(random.nextInt(3)));
            for (int k = any(1, 3); k > 0; k--) {
                text.append((char) ('0' + any(1, random.nextBoolean() ? 9 : 4)));
            }
        }
        if (random.nextInt(5) == 0) {
            int place = random.nextInt(text.length() + 1);
            text.insert(place, ";uPHD0123x".charAt(random.nextInt(10)));
        }
        if (random.nextInt(12) == 0) {
            text.setLength(random.nextInt(text.length()));
        }
        int lane = any(0, 2);
        fill(0, lane, text.chars().toArray());
        int k = random.nextInt(12) == 0 ? some(0, 3) : 0;
        int as = random.nextInt(12) == 0 ? some(0, 2) : lane;
        int i = random.nextInt(12) == 0 ? some(0, 3) : 0;
        int n = random.nextInt(12) == 0 ? some(0, 20) : text.length();
        due("house(" + k + ", " + as + ", " + i + ", " + n + ") of " + text, x.house(k, as, i, n), o.house(k, as, i, n));
    }

    private void meter() {
        int most = random.nextBoolean() ? 12 : random.nextBoolean() ? 30 : 99;
        int[] values = new int[random.nextInt(4) == 0 ? any(0, 4) : any(4, 20)];
        for (int t = 0; t < values.length; t++) {
            boolean stays = t > 0 && random.nextInt(3) == 0;
            values[t] = stays ? values[t - 1] : random.nextInt(100) == 0 ? some(0, 99) : any(0, most);
            values[t] = Math.max(values[t], random.nextInt(100) == 0 ? 0 : o.many(3));
        }
        int lane = any(0, 2);
        fill(1, lane, values);
        int k = random.nextInt(15) == 0 ? some(0, 3) : 1;
        int as = random.nextInt(15) == 0 ? some(0, 2) : lane;
        int i = random.nextInt(15) == 0 ? some(0, 20) : 0;
        int n = random.nextInt(15) == 0 ? some(0, 20) : values.length;
        due("meter(" + k + ", " + as + ", " + i + ", " + n + ")", x.meter(k, as, i, n), o.meter(k, as, i, n));
    }

    private void change() {
        int a = some(0, o.many(0) - 1);
        int k = random.nextInt(3) == 0 ? some(0, 2) : 0;
        int v = some(1, 9);
        due("level(" + a + ", " + k + ", " + v + ")", x.level(a, k, v), o.level(a, k, v));
        int b = some(0, random.nextInt(8) == 0 ? 99 : 6);
        due("base(" + b + ")", x.base(b), o.base(b));
    }

    private void askTime() {
        int t = some(0, o.many(1) - 1);
        int a = some(0, o.many(0) - 1);
        due("value(" + t + ")", x.value(t), o.value(t));
        due("at(" + t + ", " + a + ")", x.at(t, a), o.at(t, a));
        due("rest(" + t + ")", x.rest(t), o.rest(t));
        due("jump(" + t + ")", x.jump(t), o.jump(t));
        due("ways(" + t + ")", x.ways(t), o.ways(t));
    }

    private void askAppliance() {
        int a = some(0, o.many(0) - 1);
        int what = some(0, 22);
        int which = some(0, 1);
        due("ofAppliance(" + a + ", " + what + ")", x.ofAppliance(a, what), o.ofAppliance(a, what));
        due("energy(" + a + ")", x.energy(a), o.energy(a));
        due("longest(" + a + ")", x.longest(a), o.longest(a));
        due("share(" + a + ")", x.share(a), o.share(a));
        due("odds(" + a + ", " + which + ")", x.odds(a, which), o.odds(a, which));
    }

    private void askAll() {
        int what = some(0, 4);
        due("best(" + what + ")", x.best(what), o.best(what));
        due("many(" + what + ")", x.many(what), o.many(what));
        due("mean()", x.mean(), o.mean());
    }

    private void day() {
        int[] cells = new int[2 * any(0, random.nextInt(3) == 0 ? 20 : 3)];
        for (int p = 0; p < cells.length; p += 2) {
            int sort = random.nextInt(3);
            boolean wild = random.nextInt(40) == 0;
            cells[p + 1] = wild ? some(0, 50) : sort == 0 ? any(0, 3 * o.many(0)) : sort == 1 ? 20 : any(30, 30 + o.many(1));
            cells[p] = wild ? some(0, 99) : sort == 0 ? any(1, 9) : sort == 1 ? any(0, 2) : any(0, 40);
        }
        int lane = any(0, 2);
        fill(2, lane, cells);
        for (int ask = 0; ask < 3; ask++) {
            int what = random.nextInt(3) == 0 ? some(10, 13) : some(0, 4);
            int k = random.nextInt(20) == 0 ? some(0, 3) : 2;
            int as = random.nextInt(20) == 0 ? some(0, 2) : lane;
            int i = random.nextInt(20) == 0 ? some(0, 40) : 0;
            int n = random.nextInt(20) == 0 ? some(0, 20) : cells.length / 2;
            due("day(" + k + ", " + as + ", " + i + ", " + n + ", " + what + ")", x.day(k, as, i, n, what), o.day(k, as, i, n, what));
        }
    }

    private void readings() {
        int a = some(0, o.many(0) - 1);
        int v = random.nextInt(3) == 0 ? some(0, 40) : random.nextInt(20) == 0 ? some(0, 2000) : Math.max(0, o.energy(a));
        due("reading(" + a + ", " + v + ")", x.reading(a, v), o.reading(a, v));
        if (random.nextInt(2) == 0) {
            int n = some(0, o.many(4));
            due("back(" + n + ")", x.back(n), o.back(n));
        }
    }

    private void guesses() {
        if (mostAppliances == 4 && random.nextInt(3) != 0) {
            return;
        }
        int a = some(0, o.many(0) - 1);
        due("kinds(" + a + ")", x.kinds(a), o.kinds(a));
        due("firsts(" + a + ")", x.firsts(a), o.firsts(a));
    }

    private void sheets() {
        int k = some(0, 3);
        int other = some(0, 3);
        int lane = some(0, 2);
        int n = some(0, 8);
        if (random.nextInt(6) == 0) {
            sheet(k, lane, random.nextInt(8) == 0 ? some(0, 60) : n);
        }
        if (random.nextInt(10) == 0) {
            due("lose(" + k + ")", x.lose(k), o.lose(k));
        }
        int i = some(0, 8);
        int j = some(0, 8);
        int v = random.nextInt(3) == 0 ? random.nextInt() : some(-200, 200);
        put(other, i, v);
        due("cell(" + other + ", " + i + ", " + lane + ")", x.cell(other, i, lane), o.cell(other, i, lane));
        String copy = "copy(" + k + ", " + i + ", " + other + ", " + j + ", " + n + ")";
        due(copy, x.copy(k, i, other, j, n), o.copy(k, i, other, j, n));
        for (int c = j; c < j + 3 && j >= 0 && j < 60; c++) {
            int l = o.cell(other, 0, 0) != Oracle.LOST ? 0 : o.cell(other, 0, 1) != Oracle.LOST ? 1 : 2;
            due("cell(" + other + ", " + c + ", " + l + ")", x.cell(other, c, l), o.cell(other, c, l));
        }
    }

    private void parts() {
        int a = some(0, o.many(0) - 1);
        int kind = some(0, 2);
        due("tell(" + a + ")", x.tell(a), o.tell(a));
        due("metered(" + a + ")", x.metered(a), o.metered(a));
        due("trace()", x.trace(), o.trace());
        due("as(" + a + ", " + kind + ")", x.as(a, kind), o.as(a, kind));
        due("fault()", x.fault(), o.fault());
    }
}
