import java.util.ArrayList;
import java.util.Arrays;
import java.util.HashMap;
import java.util.List;
import java.util.Map;

/** The document told a second time, as simply as can be and in no way like the class, to compare answers with. */
final class Oracle {
    static final long LOST = Long.MIN_VALUE;

    static final class Appliance {
        int kind;
        List<Integer> levels = new ArrayList<>();

        int power(int state) {
            if (state == 0) {
                return 0;
            }
            int told = levels.get(state - 1);
            return kind == 0 ? told : kind == 1 ? told + 1 : 2 * told;
        }

        int after(int state) {
            return (state + 1) % (levels.size() + 1);
        }

        Appliance twin() {
            Appliance other = new Appliance();
            other.kind = kind;
            other.levels = new ArrayList<>(levels);
            return other;
        }
    }

    static final class Home {
        List<Appliance> appliances = new ArrayList<>();
        List<Integer> values = new ArrayList<>();
        int base;

        Home twin() {
            Home other = new Home();
            for (Appliance a : appliances) {
                other.appliances.add(a.twin());
            }
            other.values = new ArrayList<>(values);
            other.base = base;
            return other;
        }

        String key() {
            StringBuilder key = new StringBuilder();
            for (Appliance a : appliances) {
                key.append(a.kind).append(a.levels);
            }
            return key.append(values).append(base).toString();
        }

        int powers(int[] states) {
            int all = 0;
            for (int a = 0; a < states.length; a++) {
                all += appliances.get(a).power(states[a]);
            }
            return all;
        }
    }

    /** A way through the first times: how all are at each, what is left, and how often any went on. */
    static final class Path {
        List<int[]> states = new ArrayList<>();
        int rests;
        int changes;

        Path with(Home home, int t, int set) {
            int n = home.appliances.size();
            int[] now = states.isEmpty() ? new int[n] : states.get(states.size() - 1).clone();
            for (int a = 0; a < n; a++) {
                if ((set >> a & 1) == 1) {
                    now[a] = home.appliances.get(a).after(now[a]);
                }
            }
            int rest = home.values.get(t) - home.base - home.powers(now);
            if (rest < 0) {
                return null;
            }
            Path longer = new Path();
            longer.states.addAll(states);
            longer.states.add(now);
            longer.rests = rests + rest;
            longer.changes = changes + Integer.bitCount(set);
            return longer;
        }

        boolean isBetterThan(Path other) {
            if (other == null) {
                return true;
            }
            if (rests != other.rests) {
                return rests < other.rests;
            }
            if (changes != other.changes) {
                return changes < other.changes;
            }
            for (int t = 0; t < states.size(); t++) {
                int order = Arrays.compare(states.get(t), other.states.get(t));
                if (order != 0) {
                    return order < 0;
                }
            }
            return false;
        }
    }

    /** Tries every way that there is. */
    static Path bestOfAll(Home home) {
        return bestOfAll(home, 0, new Path());
    }

    private static Path bestOfAll(Home home, int t, Path path) {
        if (t == home.values.size()) {
            return path;
        }
        Path best = null;
        for (int set = 0; set < 1 << home.appliances.size(); set++) {
            Path longer = path.with(home, t, set);
            Path whole = longer == null ? null : bestOfAll(home, t + 1, longer);
            if (whole != null && whole.isBetterThan(best)) {
                best = whole;
            }
        }
        return best;
    }

    /** From time to time, the best way to each end that a way can have. */
    static Path bestByEnds(Home home) {
        List<Path> paths = new ArrayList<>();
        paths.add(new Path());
        for (int t = 0; t < home.values.size(); t++) {
            Map<String, Path> byEnd = new HashMap<>();
            for (Path path : paths) {
                for (int set = 0; set < 1 << home.appliances.size(); set++) {
                    Path longer = path.with(home, t, set);
                    if (longer != null) {
                        String end = Arrays.toString(longer.states.get(t));
                        if (longer.isBetterThan(byEnd.get(end))) {
                            byEnd.put(end, longer);
                        }
                    }
                }
            }
            paths = new ArrayList<>(byEnd.values());
        }
        Path best = null;
        for (Path path : paths) {
            if (path.isBetterThan(best)) {
                best = path;
            }
        }
        return best;
    }

    private final Map<String, Path> known = new HashMap<>();
    private Home home = new Home();
    private final int[][] rows = new int[4][];
    private final int[] laneOf = new int[4];
    private final List<int[]> readings = new ArrayList<>();
    private int trace;
    private int fault;

    private Path bestOf(Home of) {
        return known.computeIfAbsent(of.key(), key ->
            of.appliances.size() * of.values.size() <= 8 ? bestOfAll(of) : bestByEnds(of));
    }

    private static int energyOf(Home of, Path best, int a) {
        int energy = 0;
        for (int[] states : best.states) {
            energy += of.appliances.get(a).power(states[a]);
        }
        return energy;
    }

    private static int startsOf(Home of, Path best) {
        int starts = 0;
        int[] before = new int[of.appliances.size()];
        for (int[] states : best.states) {
            for (int a = 0; a < before.length; a++) {
                starts += before[a] == 0 && states[a] == 1 ? 1 : 0;
            }
            before = states;
        }
        return starts;
    }

    private static int sum(List<Integer> numbers) {
        return numbers.stream().mapToInt(Integer::intValue).sum();
    }

    private static boolean in(int v, int low, int high) {
        return low <= v && v <= high;
    }

    private boolean isAppliance(int a) {
        return in(a, 0, home.appliances.size() - 1);
    }

    private boolean isTime(int t) {
        return in(t, 0, home.values.size() - 1);
    }

    private int fail(int number) {
        fault = number;
        return -10 - number;
    }

    private int rowFault(int k, int lane, long i, long n) {
        if (rows[k] == null) {
            return 1;
        }
        if (laneOf[k] != lane) {
            return 2;
        }
        return i < 0 || i > rows[k].length || i + n > rows[k].length ? 3 : 0;
    }

    int house(int sheet, int lane, int i, int n) {
        fault = 0;
        if (!in(sheet, 0, 3)) {
            return -1;
        }
        if (!in(lane, 0, 2)) {
            return -2;
        }
        int found = rowFault(sheet, lane, i, Math.max(n, 0));
        if (found == 1 || found == 2) {
            return fail(found);
        }
        if (n < 0) {
            return fail(4);
        }
        if (found != 0) {
            return fail(found);
        }
        StringBuilder text = new StringBuilder();
        for (int p = 0; p < n; p++) {
            int code = rows[sheet][i + p];
            text.append(in(code, 1, 126) ? (char) code : '~');
        }
        String whole = "u(;[PHD][1-9]{1,3}){1,4}";
        java.util.regex.Matcher m = java.util.regex.Pattern.compile(whole).matcher(text);
        if (!m.matches()) {
            return -100 - firstFault(text, whole);
        }
        home = new Home();
        readings.clear();
        for (String part : text.substring(2).split(";")) {
            Appliance a = new Appliance();
            a.kind = "PHD".indexOf(part.charAt(0));
            part.substring(1).chars().forEach(c -> a.levels.add(c - '0'));
            home.appliances.add(a);
        }
        return home.appliances.size();
    }

    /** The longest start of the text that is a start of a text which is taken. */
    private static int firstFault(CharSequence text, String whole) {
        for (int p = 0; p < text.length(); p++) {
            java.util.regex.Matcher m = java.util.regex.Pattern.compile(whole).matcher(text.subSequence(0, p + 1));
            if (!m.matches() && !m.hitEnd()) {
                return p;
            }
        }
        return text.length();
    }

    int ofAppliance(int a, int what) {
        if (!isAppliance(a)) {
            return -1;
        }
        Appliance of = home.appliances.get(a);
        switch (what) {
            case 0: return of.kind;
            case 1: return of.levels.size();
            case 10: case 11: case 12: return what - 10 < of.levels.size() ? of.levels.get(what - 10) : -9;
            case 20: case 21: case 22: return what - 20 < of.levels.size() ? of.power(what - 19) : -9;
            default: return -2;
        }
    }

    int level(int a, int k, int v) {
        if (!isAppliance(a) || !in(k, 0, home.appliances.get(a).levels.size() - 1)) {
            return -1;
        }
        return in(v, 1, 9) ? home.appliances.get(a).levels.set(k, v) : -2;
    }

    int meter(int sheet, int lane, int i, int n) {
        fault = 0;
        if (!in(sheet, 0, 3)) {
            return -1;
        }
        if (!in(lane, 0, 2) || !in(n, 0, 20)) {
            return -2;
        }
        int found = rowFault(sheet, lane, i, n);
        if (found != 0) {
            return fail(found);
        }
        if (home.appliances.isEmpty()) {
            return -3;
        }
        List<Integer> values = new ArrayList<>();
        for (int t = 0; t < n; t++) {
            values.add(rows[sheet][i + t]);
        }
        if (values.stream().anyMatch(v -> !in(v, home.base, 99))) {
            return -2;
        }
        home.values = values;
        return n;
    }

    int value(int t) {
        return isTime(t) ? home.values.get(t) : -1;
    }

    int base(int v) {
        if (!in(v, 0, 99)) {
            return -2;
        }
        if (home.appliances.isEmpty() || home.values.stream().anyMatch(w -> w < v)) {
            return -3;
        }
        int was = home.base;
        home.base = v;
        return was;
    }

    int at(int t, int a) {
        return isTime(t) && isAppliance(a) ? bestOf(home).states.get(t)[a] : -1;
    }

    int rest(int t) {
        return isTime(t) ? home.values.get(t) - home.base - home.powers(bestOf(home).states.get(t)) : -1;
    }

    private static int told(Home of, Path best, int what) {
        switch (what) {
            case 0: return best.rests;
            case 1: return best.changes;
            case 2: return startsOf(of, best);
            default: return sum(of.values) - of.values.size() * of.base - best.rests;
        }
    }

    int best(int what) {
        if (!in(what, 0, 3)) {
            return -2;
        }
        return home.appliances.isEmpty() ? -3 : told(home, bestOf(home), what);
    }

    int energy(int a) {
        return isAppliance(a) ? energyOf(home, bestOf(home), a) : -1;
    }

    int day(int sheet, int lane, int i, int n, int what) {
        fault = 0;
        if (!in(sheet, 0, 3)) {
            return -1;
        }
        if (!in(lane, 0, 2) || !in(n, 0, 20) || !(in(what, 0, 4) || in(what, 10, 13))) {
            return -2;
        }
        int found = rowFault(sheet, lane, i, 2L * n);
        if (found != 0) {
            return fail(found);
        }
        if (home.appliances.isEmpty()) {
            return -3;
        }
        for (int p = 0; p < n; p++) {
            int v = rows[sheet][i + 2 * p];
            int act = rows[sheet][i + 2 * p + 1];
            boolean fine = in(act, 0, 11) ? in(v, 1, 9) : (act == 20 || in(act, 30, 49)) && in(v, 0, 99);
            if (!fine) {
                return -2;
            }
        }
        Home then = home.twin();
        int wrong = -9;
        for (int p = 0; p < n && wrong == -9; p++) {
            wrong = canBe(then, rows[sheet][i + 2 * p], rows[sheet][i + 2 * p + 1]) ? -9 : p;
        }
        if (what == 1) {
            return wrong;
        }
        if (wrong != -9) {
            return -100 - wrong;
        }
        if (what >= 10) {
            return isAppliance(what - 10) ? energyOf(then, bestOf(then), what - 10) : -9;
        }
        return told(then, bestOf(then), what == 0 ? 0 : what - 1);
    }

    private static boolean canBe(Home then, int v, int act) {
        if (act < 20) {
            int a = act / 3;
            if (a >= then.appliances.size() || act % 3 >= then.appliances.get(a).levels.size()) {
                return false;
            }
            then.appliances.get(a).levels.set(act % 3, v);
            return true;
        }
        if (act == 20) {
            then.base = v;
        } else if (act - 30 < then.values.size()) {
            then.values.set(act - 30, v);
        } else {
            return false;
        }
        return then.values.stream().allMatch(w -> w >= then.base);
    }

    private int jumpOf(int t) {
        return home.values.get(t) - (t == 0 ? home.base : home.values.get(t - 1));
    }

    int jump(int t) {
        return isTime(t) ? 100 + jumpOf(t) : -1;
    }

    int ways(int t) {
        if (!isTime(t)) {
            return -1;
        }
        int n = home.appliances.size();
        int[] before = t == 0 ? new int[n] : bestOf(home).states.get(t - 1);
        int ways = 0;
        for (int set = 0; set < 1 << n; set++) {
            int[] now = before.clone();
            for (int a = 0; a < n; a++) {
                now[a] = (set >> a & 1) == 1 ? home.appliances.get(a).after(now[a]) : now[a];
            }
            ways += home.powers(now) - home.powers(before) == jumpOf(t) ? 1 : 0;
        }
        return ways;
    }

    int longest(int a) {
        if (!isAppliance(a)) {
            return -1;
        }
        StringBuilder on = new StringBuilder();
        bestOf(home).states.forEach(s -> on.append(s[a] == 0 ? ' ' : 'x'));
        return Arrays.stream(on.toString().split(" ")).mapToInt(String::length).max().orElse(0);
    }

    int share(int a) {
        if (!isAppliance(a)) {
            return -1;
        }
        int all = sum(home.values);
        return all == 0 ? 0 : Float.floatToIntBits((float) energy(a) / (float) all);
    }

    long mean() {
        return home.values.isEmpty() ? LOST : Double.doubleToLongBits((double) sum(home.values) / home.values.size());
    }

    int reading(int a, int v) {
        if (!isAppliance(a)) {
            return -1;
        }
        if (!in(v, 0, 2000)) {
            return -2;
        }
        if (readings.size() == 8) {
            return -4;
        }
        readings.add(new int[] {a, v});
        return readings.size() - 1;
    }

    int back(int n) {
        if (!in(n, 0, readings.size())) {
            return -2;
        }
        for (int r = 0; r < n; r++) {
            readings.remove(readings.size() - 1);
        }
        return readings.size();
    }

    private boolean holds(Home of) {
        return readings.stream().allMatch(r -> energyOf(of, bestOf(of), r[0]) == r[1]);
    }

    int kinds(int a) {
        if (!isAppliance(a)) {
            return -1;
        }
        int set = 0;
        for (int kind = 0; kind < 3; kind++) {
            Home other = home.twin();
            other.appliances.get(a).kind = kind;
            set |= holds(other) ? 1 << kind : 0;
        }
        return set;
    }

    int firsts(int a) {
        if (!isAppliance(a)) {
            return -1;
        }
        int set = 0;
        for (int v = 1; v <= 9; v++) {
            Home other = home.twin();
            other.appliances.get(a).levels.set(0, v);
            set |= holds(other) ? 1 << v : 0;
        }
        return set;
    }

    long odds(int a, int which) {
        if (!isAppliance(a) || !in(which, 0, 1) || home.values.isEmpty()) {
            return LOST;
        }
        long on = bestOf(home).states.stream().filter(s -> s[a] != 0).count();
        long all = home.values.size();
        long common = java.math.BigInteger.valueOf(on).gcd(java.math.BigInteger.valueOf(all)).longValue();
        return (which == 0 ? on : all) / common;
    }

    int sheet(int k, int lane, int n) {
        fault = 0;
        if (!in(k, 0, 3)) {
            return -1;
        }
        if (!in(lane, 0, 2) || n > 60) {
            return -2;
        }
        if (n < 0) {
            return fail(4);
        }
        rows[k] = new int[n];
        laneOf[k] = lane;
        return 1;
    }

    int lose(int k) {
        if (!in(k, 0, 3)) {
            return -1;
        }
        int had = rows[k] == null ? 0 : 1;
        rows[k] = null;
        return had;
    }

    int put(int k, int i, int v) {
        fault = 0;
        if (!in(k, 0, 3)) {
            return -1;
        }
        if (rows[k] == null) {
            return fail(1);
        }
        if (!in(i, 0, rows[k].length - 1)) {
            return fail(3);
        }
        rows[k][i] = laneOf[k] == 0 ? (byte) v : laneOf[k] == 1 ? (short) v : v;
        return 1;
    }

    long cell(int k, int i, int lane) {
        fault = 0;
        if (!in(k, 0, 3) || !in(lane, 0, 2)) {
            return LOST;
        }
        fault = rowFault(k, lane, i, 1);
        return fault == 0 ? rows[k][i] : LOST;
    }

    int copy(int k, int i, int other, int j, int n) {
        fault = 0;
        if (!in(k, 0, 3) || !in(other, 0, 3)) {
            return -1;
        }
        if (rows[k] == null || rows[other] == null) {
            return fail(1);
        }
        if (laneOf[k] != laneOf[other]) {
            return fail(2);
        }
        if (i < 0 || j < 0 || n < 0 || (long) i + n > rows[k].length || (long) j + n > rows[other].length) {
            return fail(3);
        }
        int[] taken = Arrays.copyOfRange(rows[k], i, i + n);
        for (int c = 0; c < n; c++) {
            rows[other][j + c] = taken[c];
        }
        return n;
    }

    private void leave(int... bodies) {
        for (int body : bodies) {
            trace = 31 * trace + body;
        }
    }

    int tell(int a) {
        if (!isAppliance(a)) {
            return -1;
        }
        int levels = home.appliances.get(a).levels.size();
        switch (home.appliances.get(a).kind) {
            case 0: leave(1); return levels;
            case 1: leave(2, 1); return levels + 100;
            default: leave(3, 2, 1, 1); return 2 * levels + 100;
        }
    }

    int metered(int a) {
        if (!isAppliance(a)) {
            return -1;
        }
        boolean own = home.appliances.get(a).kind == 2;
        leave(own ? 5 : 4);
        return own ? 90 : sum(home.appliances.get(a).levels);
    }

    int as(int a, int kind) {
        fault = 0;
        if (!isAppliance(a)) {
            return -1;
        }
        if (!in(kind, 0, 2)) {
            return -2;
        }
        return kind <= home.appliances.get(a).kind ? 1 : fail(2);
    }

    int trace() {
        return trace;
    }

    int fault() {
        return fault;
    }

    int many(int what) {
        switch (what) {
            case 0: return home.appliances.size();
            case 1: return home.values.size();
            case 2: return home.appliances.stream().mapToInt(a -> a.levels.size()).sum();
            case 3: return home.base;
            case 4: return readings.size();
            default: return -2;
        }
    }
}
