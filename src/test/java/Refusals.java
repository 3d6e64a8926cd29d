import java.util.List;
import java.util.function.Supplier;
import java.util.function.ToLongFunction;

/**
 * Calls that are refused, or come to a FAULT, on objects of one making: what such a call answers, what fault() tells
 * after it, and that it changes nothing else.
 */
final class Refusals {
    private final Check check;
    private final String making;
    private final Supplier<LoadCycles> maker;
    private final List<String> seen;

    Refusals(Check check, String making, Supplier<LoadCycles> maker) {
        this.check = check;
        this.making = making;
        this.maker = maker;
        seen = View.of(maker);
    }

    /** Of a call whose promise names FAULTS: fault() tells how it went, whatever fault() told ahead of it. */
    void named(String call, ToLongFunction<LoadCycles> by, long answer, int fault) {
        for (int way = 0; way < 3; way++) {
            LoadCycles x = maker.get();
            bringToFault(x, way);
            check.due(making + ": " + call, by.applyAsLong(x), answer);
            check.due(making + ": fault() after " + call, x.fault(), fault);
        }
        changesNothing(call, by);
    }

    /** Of a call whose promise names none: fault() goes on telling of an earlier call. */
    void unnamed(String call, ToLongFunction<LoadCycles> by, long answer) {
        for (int way = 0; way < 3; way++) {
            LoadCycles x = maker.get();
            int ahead = bringToFault(x, way);
            check.due(making + ": " + call, by.applyAsLong(x), answer);
            check.due(making + ": fault() after " + call, x.fault(), ahead);
        }
        changesNothing(call, by);
    }

    private int bringToFault(LoadCycles x, int way) {
        if (way == 0) {
            check.due("a refused call", x.sheet(-1, 0, 0), -1);
            return 0;
        }
        if (way == 1) {
            check.due("SIZE", x.sheet(0, 0, -1), -14);
            return 4;
        }
        // NULL where the sheet has nothing, INDEX where it has a row.
        return -10 - x.put(0, -1, 0);
    }

    private void changesNothing(String call, ToLongFunction<LoadCycles> by) {
        List<String> then = View.of(() -> {
            LoadCycles x = maker.get();
            by.applyAsLong(x);
            return x;
        });
        check.due(making + ": lines after " + call, then.size(), seen.size());
        for (int line = 0; line < Math.min(then.size(), seen.size()); line++) {
            if (!then.get(line).equals(seen.get(line))) {
                check.wrong(making + ": " + call + " changed " + seen.get(line) + " to " + then.get(line));
                return;
            }
        }
    }
}
