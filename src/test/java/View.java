import java.util.ArrayList;
import java.util.List;
import java.util.function.Consumer;
import java.util.function.Supplier;

/**
 * All that calls tell of an object, a line each; but not fault(), which cell() changes. Several objects of one making
 * are asked, since an object is promised for 512 calls alone.
 */
final class View {
    private static final int[] OF_APPLIANCE = {0, 1, 10, 11, 12, 20, 21, 22};

    private final List<String> lines = new ArrayList<>();

    private View() {
    }

    static List<String> of(Supplier<LoadCycles> maker) {
        View view = new View();
        return view.by(maker, List.of(
            view::lookAtHouse, view::lookAtBest, view::lookAtReadings,
            x -> view.lookAtSheet(x, 0), x -> view.lookAtSheet(x, 1), x -> view.lookAtSheet(x, 2), x -> view.lookAtSheet(x, 3)));
    }

    static List<String> butForSheets(Supplier<LoadCycles> maker) {
        View view = new View();
        return view.by(maker, List.of(view::lookAtHouse, view::lookAtBest, view::lookAtReadings));
    }

    private List<String> by(Supplier<LoadCycles> maker, List<Consumer<LoadCycles>> looks) {
        for (Consumer<LoadCycles> look : looks) {
            look.accept(maker.get());
        }
        return lines;
    }

    private void add(String call, long answer) {
        lines.add(call + " = " + answer);
    }

    private void lookAtHouse(LoadCycles x) {
        add("trace()", x.trace());
        for (int what = 0; what < 5; what++) {
            add("many(" + what + ")", x.many(what));
        }
        for (int a = 0; a < 4; a++) {
            for (int what : OF_APPLIANCE) {
                add("ofAppliance(" + a + ", " + what + ")", x.ofAppliance(a, what));
            }
            add("tell(" + a + ")", x.tell(a));
            add("metered(" + a + ")", x.metered(a));
            for (int kind = 0; kind < 3; kind++) {
                add("as(" + a + ", " + kind + ")", x.as(a, kind));
            }
        }
        add("mean()", x.mean());
    }

    private void lookAtBest(LoadCycles x) {
        for (int t = 0; t < 20; t++) {
            for (int a = 0; a < 4; a++) {
                add("at(" + t + ", " + a + ")", x.at(t, a));
            }
            add("value(" + t + ")", x.value(t));
            add("rest(" + t + ")", x.rest(t));
            add("jump(" + t + ")", x.jump(t));
            add("ways(" + t + ")", x.ways(t));
        }
        for (int a = 0; a < 4; a++) {
            add("best(" + a + ")", x.best(a));
            add("energy(" + a + ")", x.energy(a));
            add("longest(" + a + ")", x.longest(a));
            add("share(" + a + ")", x.share(a));
            add("odds(" + a + ", 0)", x.odds(a, 0));
            add("odds(" + a + ", 1)", x.odds(a, 1));
        }
    }

    /** What each reading tells is seen by taking them back one by one. */
    private void lookAtReadings(LoadCycles x) {
        for (int left = x.many(4); left >= 0; left--) {
            for (int a = 0; a < 4; a++) {
                add(left + " readings: kinds(" + a + ")", x.kinds(a));
                add(left + " readings: firsts(" + a + ")", x.firsts(a));
            }
            add(left + " readings: back(1)", x.back(1));
        }
    }

    private void lookAtSheet(LoadCycles x, int k) {
        for (int lane = 0; lane < 3; lane++) {
            for (int i = 0; i < 60; i++) {
                add("cell(" + k + ", " + i + ", " + lane + ")", x.cell(k, i, lane));
            }
        }
        add("copy(" + k + ", 0, " + k + ", 0, 0)", x.copy(k, 0, k, 0, 0));
        add("lose(" + k + ")", x.lose(k));
    }
}
