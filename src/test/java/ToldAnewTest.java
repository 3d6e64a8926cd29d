import java.util.Arrays;
import java.util.List;
import java.util.function.Consumer;
import java.util.function.Supplier;

/**
 * Promises 2, 4, 5, 7, 18, 19: what they change is told anew by all calls. An object of which all was asked ahead of
 * the change answers as a new one that was told the same from its first call on, and was asked nothing.
 */
public final class ToldAnewTest {
    private static final Check check = new Check();

    /** What an object is told: readings are pairs, an appliance and an energy. */
    private record Told(String text, int base, List<Integer> values, List<Integer> readings) {
        LoadCycles make() {
            LoadCycles x = Check.of(text, base, row(values));
            for (int r = 0; r < readings.size(); r += 2) {
                x.reading(readings.get(r), readings.get(r + 1));
            }
            return x;
        }
    }

    private static final Told[] BEGINNINGS = {
        new Told("u;P123;H456;D789;P191", 2, List.of(2, 7, 9, 40, 51, 99, 30, 12, 8, 3, 2, 16, 20), List.of(1, 47)),
        new Told("u;P5;H92", 1, List.of(1, 6, 16, 11, 4), List.of(1, 20, 0, 10)),
        new Told("u;D3", 0, List.of(6, 6, 0, 7), List.of(0, 18)),
        new Told("u;P2;P3;P5", 0, List.of(), List.of(2, 0)),
    };

    private static final List<List<Integer>> METERS = List.of(
        List.of(), List.of(99), List.of(6, 6, 6), List.of(99, 2, 99, 2), List.of(2, 2, 20, 20, 2),
        List.of(5, 10, 15, 20, 25, 30, 35, 40, 45, 50, 55, 60, 65, 70, 75, 80, 85, 90, 95, 99));

    private static final String[] TEXTS = {"u;P1", "u;D9", "u;H123;P4", "u;P9;P9;P9", "u;D1;D22;H333;P456"};

    public static void main(String[] args) {
        for (Told told : BEGINNINGS) {
            levels(told);
            bases(told);
            meters(told);
            houses(told);
            readings(told);
            oneAfterAnother(told);
        }
        guessesOfAnOldHouse();
        check.end();
    }

    private static int[] row(List<Integer> numbers) {
        return numbers.stream().mapToInt(Integer::intValue).toArray();
    }

    /** So that whatever an object keeps for later calls is kept when the change comes. */
    private static void askAll(LoadCycles x) {
        x.at(0, 0);
        for (int a = 0; a < 4; a++) {
            x.best(a);
            x.energy(a);
            x.kinds(a);
            x.firsts(a);
        }
    }

    private static void compare(String name, Told before, Consumer<LoadCycles> change, Told after) {
        int energy = after.make().energy(0);
        Supplier<LoadCycles> changed = () -> {
            LoadCycles x = before.make();
            askAll(x);
            change.accept(x);
            x.reading(0, energy);
            return x;
        };
        Supplier<LoadCycles> made = () -> {
            LoadCycles x = after.make();
            x.reading(0, energy);
            return x;
        };
        List<String> got = View.butForSheets(changed);
        List<String> want = View.butForSheets(made);
        for (int line = 0; line < want.size(); line++) {
            if (!got.get(line).equals(want.get(line))) {
                check.wrong(before.text() + ", " + name + ": " + got.get(line) + ", due is " + want.get(line));
            }
        }
    }

    private static void levels(Told told) {
        int a = -1;
        int k = 0;
        for (int place = 1; place < told.text().length(); place++) {
            char code = told.text().charAt(place);
            if (code == ';') {
                a++;
                k = 0;
            } else if (Character.isDigit(code)) {
                for (int v : new int[] {1, 4, 9}) {
                    level(told, place, a, k, v);
                }
                k++;
            }
        }
    }

    private static void level(Told told, int place, int a, int k, int v) {
        String text = told.text().substring(0, place) + v + told.text().substring(place + 1);
        compare("level(" + a + ", " + k + ", " + v + ")", told, x -> x.level(a, k, v),
            new Told(text, told.base(), told.values(), told.readings()));
    }

    private static void bases(Told told) {
        int least = told.values().stream().mapToInt(Integer::intValue).min().orElse(99);
        for (int v : new int[] {0, 1, 2, 50, 99}) {
            if (v <= least) {
                compare("base(" + v + ")", told, x -> x.base(v),
                    new Told(told.text(), v, told.values(), told.readings()));
            }
        }
    }

    private static void meters(Told told) {
        for (List<Integer> values : METERS) {
            compare("meter " + values, told, x -> Check.meter(x, row(values)),
                new Told(told.text(), told.base(), values, told.readings()));
        }
    }

    private static void houses(Told told) {
        for (String text : TEXTS) {
            compare("house " + text, told, x -> Check.house(x, text), new Told(text, 0, List.of(), List.of()));
        }
        compare("the same house", told, x -> Check.house(x, told.text()),
            new Told(told.text(), 0, List.of(), List.of()));
    }

    private static void readings(Told told) {
        Integer[] more = Arrays.copyOf(told.readings().toArray(new Integer[0]), told.readings().size() + 2);
        more[more.length - 2] = 0;
        more[more.length - 1] = 7;
        compare("reading(0, 7)", told, x -> x.reading(0, 7),
            new Told(told.text(), told.base(), told.values(), List.of(more)));
        compare("back(1)", told, x -> x.back(1),
            new Told(told.text(), told.base(), told.values(), told.readings().subList(0, told.readings().size() - 2)));
    }

    /** All was asked between the changes, too. */
    private static void oneAfterAnother(Told told) {
        compare("one after another", told, x -> {
            Check.house(x, "u;P7;H2");
            askAll(x);
            Check.meter(x, 9, 7, 10, 12);
            askAll(x);
            x.base(3);
            askAll(x);
            x.reading(1, 9);
            askAll(x);
            x.level(1, 0, 3);
        }, new Told("u;P7;H3", 3, List.of(9, 7, 10, 12), List.of(1, 9)));
    }

    /** "A TEXT that is taken makes all anew": of an empty meter each energy is 0, by whatever kind or first level. */
    private static void guessesOfAnOldHouse() {
        LoadCycles x = Check.of("u;P3", 0, 6, 4, 3);
        x.reading(0, 9);
        check.due("kinds of the old house", x.kinds(0), 1);
        check.due("firsts of the old house", x.firsts(0), 1 << 3);
        Check.house(x, "u;P3");
        x.reading(0, 9);
        check.due("kinds by the old energy", x.kinds(0), 0);
        check.due("firsts by the old energy", x.firsts(0), 0);
        x.back(1);
        x.reading(0, 0);
        check.due("kinds by 0", x.kinds(0), 7);
        check.due("firsts by 0", x.firsts(0), 1022);
    }
}
