import java.util.Arrays;

/** A house's load, unmixed into what its appliances do; ../shared/DOC.md says what each call answers. */
public final class LoadCycles {
    public static final int UNKNOWN = -1, OUTSIDE = -2, STATE = -3, FULL = -4, NONE = -9;
    public static final long LOST = Long.MIN_VALUE;

    private static final int NO_FAULT = 0, NULL_FAULT = 1, CAST_FAULT = 2, INDEX_FAULT = 3, SIZE_FAULT = 4;
    private static final int PLAIN = 0, HEAVY = 1, DOUBLE = 2, KINDS = 3;
    private static final int BYTES = 0, SHORTS = 1, LANES = 3;
    private static final int OFF = 0;

    private static final int MOST_APPLIANCES = 4;
    private static final int MOST_LEVELS = 3;
    private static final int HIGHEST_LEVEL = 9;
    private static final int MOST_TIMES = 20;
    private static final int HIGHEST_VALUE = 99;
    private static final int MOST_PAIRS = 20;
    private static final int MOST_READINGS = 8;
    private static final int HIGHEST_READING = 2000;
    private static final int SHEETS = 4;
    private static final int MOST_CELLS = 60;
    /** How four appliances can be at once: each off or at one of three levels. */
    private static final int MOST_MIXES = 256;

    private static final int FLOAT_FRACTION = 23, FLOAT_BIAS = 127;
    private static final int DOUBLE_FRACTION = 52, DOUBLE_BIAS = 1023;
    /** Enough to bring any share or mean to a double's digits. */
    private static final int MOST_SHIFTS = 60;

    private final House current = new House();
    private final House trial = new House();
    private final Doing currentBest = new Doing();
    private final Doing trialBest = new Doing();
    private final Unmixer unmixer = new Unmixer();
    private final TextReader reader = new TextReader();
    private final Guesses guesses = new Guesses();
    private final Sheet[] sheets = new Sheet[SHEETS];
    private final int[] readingAppliances = new int[MOST_READINGS];
    private final int[] readingEnergies = new int[MOST_READINGS];
    private int readings;
    private boolean bestIsKnown;
    private int traceNumber;
    private int faultNumber;

    public LoadCycles() {
        for (int k = 0; k < SHEETS; k++) {
            sheets[k] = new Sheet();
        }
    }

    // ---- 1 the house

    public int house(int sheet, int lane, int i, int n) {
        faultNumber = NO_FAULT;
        if (!isSheet(sheet)) {
            return UNKNOWN;
        }
        if (!isLane(lane)) {
            return OUTSIDE;
        }
        Sheet text = sheets[sheet];
        int found = text.faultOfRow(lane);
        if (found == NO_FAULT && n < 0) {
            found = SIZE_FAULT;
        }
        if (found == NO_FAULT && !text.holds(i, n)) {
            found = INDEX_FAULT;
        }
        if (found != NO_FAULT) {
            return faulted(found);
        }
        int wrong = reader.firstFault(text, i, n);
        if (wrong != NONE) {
            return -100 - wrong;
        }
        current.become(reader.house);
        readings = 0;
        forgetBest();
        return current.appliances;
    }

    public int ofAppliance(int a, int what) {
        if (!current.hasAppliance(a)) {
            return UNKNOWN;
        }
        if (what == 0) {
            return current.kindOf[a];
        }
        if (what == 1) {
            return current.levelsOf[a];
        }
        if (what >= 10 && what < 10 + MOST_LEVELS) {
            return current.hasLevel(a, what - 10) ? current.toldLevel(a, what - 10) : NONE;
        }
        if (what >= 20 && what < 20 + MOST_LEVELS) {
            return current.hasLevel(a, what - 20) ? current.powerOf(a, what - 20) : NONE;
        }
        return OUTSIDE;
    }

    public int level(int a, int k, int v) {
        if (!current.hasAppliance(a) || !current.hasLevel(a, k)) {
            return UNKNOWN;
        }
        if (!isLevelValue(v)) {
            return OUTSIDE;
        }
        int was = current.toldLevel(a, k);
        current.setLevel(a, k, v);
        forgetBest();
        return was;
    }

    public int meter(int sheet, int lane, int i, int n) {
        faultNumber = NO_FAULT;
        if (!isSheet(sheet)) {
            return UNKNOWN;
        }
        if (!isLane(lane) || n < 0 || n > MOST_TIMES) {
            return OUTSIDE;
        }
        Sheet row = sheets[sheet];
        int found = row.faultOfCells(lane, i, n);
        if (found != NO_FAULT) {
            return faulted(found);
        }
        if (!hasHouse()) {
            return STATE;
        }
        for (int t = 0; t < n; t++) {
            if (row.cells[i + t] < current.always || row.cells[i + t] > HIGHEST_VALUE) {
                return OUTSIDE;
            }
        }
        System.arraycopy(row.cells, i, current.values, 0, n);
        current.times = n;
        forgetBest();
        return n;
    }

    public int value(int t) {
        return current.hasTime(t) ? current.values[t] : UNKNOWN;
    }

    public int base(int v) {
        if (!isMeterValue(v)) {
            return OUTSIDE;
        }
        if (!hasHouse() || !current.allowsBase(v)) {
            return STATE;
        }
        int was = current.always;
        current.always = v;
        forgetBest();
        return was;
    }

    // ---- 2 what is done

    public int at(int t, int a) {
        if (!current.hasTime(t) || !current.hasAppliance(a)) {
            return UNKNOWN;
        }
        return knownBest().stateOf(t, a);
    }

    public int rest(int t) {
        if (!current.hasTime(t)) {
            return UNKNOWN;
        }
        Doing best = knownBest();
        int left = current.values[t] - current.always;
        for (int a = 0; a < current.appliances; a++) {
            left -= current.powerIn(a, best.stateOf(t, a));
        }
        return left;
    }

    public int best(int what) {
        if (what < 0 || what > 3) {
            return OUTSIDE;
        }
        if (!hasHouse()) {
            return STATE;
        }
        return knownBest().numberOf(what);
    }

    public int energy(int a) {
        return current.hasAppliance(a) ? knownBest().energies[a] : UNKNOWN;
    }

    public int day(int sheet, int lane, int i, int n, int what) {
        faultNumber = NO_FAULT;
        if (!isSheet(sheet)) {
            return UNKNOWN;
        }
        if (!isLane(lane) || n < 0 || n > MOST_PAIRS || !isAskedOfDay(what)) {
            return OUTSIDE;
        }
        Sheet row = sheets[sheet];
        int found = row.faultOfCells(lane, i, 2 * n);
        if (found != NO_FAULT) {
            return faulted(found);
        }
        if (!hasHouse()) {
            return STATE;
        }
        if (!arePairs(row, i, n)) {
            return OUTSIDE;
        }
        int wrong = liveTrialDay(row, i, n);
        if (what == 1) {
            return wrong;
        }
        return wrong == NONE ? answerOfTrialDay(what) : -100 - wrong;
    }

    // ---- 3 jumps, shares

    public int jump(int t) {
        return current.hasTime(t) ? current.jumpTo(t) + 100 : UNKNOWN;
    }

    public int ways(int t) {
        if (!current.hasTime(t)) {
            return UNKNOWN;
        }
        Doing best = knownBest();
        int due = current.jumpTo(t);
        int count = 0;
        for (int set = 0; set < 1 << current.appliances; set++) {
            if (powerGain(best, t, set) == due) {
                count++;
            }
        }
        return count;
    }

    public int longest(int a) {
        if (!current.hasAppliance(a)) {
            return UNKNOWN;
        }
        Doing best = knownBest();
        int most = 0;
        int stretch = 0;
        for (int t = 0; t < current.times; t++) {
            stretch = best.stateOf(t, a) == OFF ? 0 : stretch + 1;
            most = Math.max(most, stretch);
        }
        return most;
    }

    public int share(int a) {
        if (!current.hasAppliance(a)) {
            return UNKNOWN;
        }
        return (int) nearestBits(knownBest().energies[a], current.allValues(), FLOAT_FRACTION, FLOAT_BIAS);
    }

    public long mean() {
        if (current.times == 0) {
            return LOST;
        }
        return nearestBits(current.allValues(), current.times, DOUBLE_FRACTION, DOUBLE_BIAS);
    }

    // ---- 4 how much energy

    public int reading(int a, int v) {
        if (!current.hasAppliance(a)) {
            return UNKNOWN;
        }
        if (v < 0 || v > HIGHEST_READING) {
            return OUTSIDE;
        }
        if (readings >= MOST_READINGS) {
            return FULL;
        }
        readingAppliances[readings] = a;
        readingEnergies[readings] = v;
        readings++;
        return readings - 1;
    }

    public int back(int n) {
        if (n < 0 || n > readings) {
            return OUTSIDE;
        }
        readings -= n;
        return readings;
    }

    public int kinds(int a) {
        if (!current.hasAppliance(a)) {
            return UNKNOWN;
        }
        int set = 0;
        for (int kind = 0; kind < KINDS; kind++) {
            if (readingsHold(a, kind)) {
                set |= 1 << kind;
            }
        }
        return set;
    }

    public int firsts(int a) {
        if (!current.hasAppliance(a)) {
            return UNKNOWN;
        }
        int set = 0;
        for (int v = 1; v <= HIGHEST_LEVEL; v++) {
            if (readingsHold(a, KINDS + v - 1)) {
                set |= 1 << v;
            }
        }
        return set;
    }

    public long odds(int a, int which) {
        if (!current.hasAppliance(a) || which < 0 || which > 1 || current.times == 0) {
            return LOST;
        }
        Doing best = knownBest();
        int on = 0;
        for (int t = 0; t < current.times; t++) {
            if (best.stateOf(t, a) != OFF) {
                on++;
            }
        }
        int common = commonDivisor(on, current.times);
        return (which == 0 ? on : current.times) / common;
    }

    // ---- 5 sheets, parts

    public int sheet(int k, int lane, int n) {
        faultNumber = NO_FAULT;
        if (!isSheet(k)) {
            return UNKNOWN;
        }
        if (!isLane(lane) || n > MOST_CELLS) {
            return OUTSIDE;
        }
        if (n < 0) {
            return faulted(SIZE_FAULT);
        }
        sheets[k].renew(lane, n);
        return 1;
    }

    public int lose(int k) {
        if (!isSheet(k)) {
            return UNKNOWN;
        }
        boolean had = sheets[k].hasRow();
        sheets[k].empty();
        return had ? 1 : 0;
    }

    public int put(int k, int i, int v) {
        faultNumber = NO_FAULT;
        if (!isSheet(k)) {
            return UNKNOWN;
        }
        Sheet row = sheets[k];
        if (!row.hasRow()) {
            return faulted(NULL_FAULT);
        }
        if (!row.holds(i, 1)) {
            return faulted(INDEX_FAULT);
        }
        row.cells[i] = row.cut(v);
        return 1;
    }

    public long cell(int k, int i, int lane) {
        faultNumber = NO_FAULT;
        if (!isSheet(k) || !isLane(lane)) {
            return LOST;
        }
        Sheet row = sheets[k];
        faultNumber = row.faultOfCells(lane, i, 1);
        return faultNumber == NO_FAULT ? row.cells[i] : LOST;
    }

    public int copy(int k, int i, int other, int j, int n) {
        faultNumber = NO_FAULT;
        if (!isSheet(k) || !isSheet(other)) {
            return UNKNOWN;
        }
        Sheet from = sheets[k];
        Sheet to = sheets[other];
        if (!from.hasRow() || !to.hasRow()) {
            return faulted(NULL_FAULT);
        }
        if (from.lane != to.lane) {
            return faulted(CAST_FAULT);
        }
        if (!from.holds(i, n) || !to.holds(j, n)) {
            return faulted(INDEX_FAULT);
        }
        System.arraycopy(from.cells, i, to.cells, j, n);
        return n;
    }

    public int tell(int a) {
        if (!current.hasAppliance(a)) {
            return UNKNOWN;
        }
        switch (current.kindOf[a]) {
            case PLAIN:
                return tellPlain(a);
            case HEAVY:
                return tellHeavy(a);
            default:
                return tellDouble(a);
        }
    }

    public int metered(int a) {
        if (!current.hasAppliance(a)) {
            return UNKNOWN;
        }
        return current.kindOf[a] == DOUBLE ? ownMetering() : lentMetering(a);
    }

    public int as(int a, int kind) {
        faultNumber = NO_FAULT;
        if (!current.hasAppliance(a)) {
            return UNKNOWN;
        }
        if (kind < PLAIN || kind > DOUBLE) {
            return OUTSIDE;
        }
        // Each kind is all the kinds with lesser numbers, too.
        return kind <= current.kindOf[a] ? 1 : faulted(CAST_FAULT);
    }

    public int trace() {
        return traceNumber;
    }

    public int fault() {
        return faultNumber;
    }

    public int many(int what) {
        switch (what) {
            case 0:
                return current.appliances;
            case 1:
                return current.times;
            case 2:
                return current.allLevels();
            case 3:
                return current.always;
            case 4:
                return readings;
            default:
                return OUTSIDE;
        }
    }

    // ---- what the calls share

    private static boolean isSheet(int k) {
        return k >= 0 && k < SHEETS;
    }

    private static boolean isLane(int lane) {
        return lane >= 0 && lane < LANES;
    }

    private static boolean isLevelValue(int v) {
        return v >= 1 && v <= HIGHEST_LEVEL;
    }

    private static boolean isMeterValue(int v) {
        return v >= 0 && v <= HIGHEST_VALUE;
    }

    private boolean hasHouse() {
        return current.appliances > 0;
    }

    private int faulted(int number) {
        faultNumber = number;
        return -10 - number;
    }

    private void forgetBest() {
        bestIsKnown = false;
        guesses.forget();
    }

    /** BEST is kept until the house or its meter changes, since most calls only ask of it. */
    private Doing knownBest() {
        if (!bestIsKnown) {
            unmixer.unmix(current, currentBest);
            bestIsKnown = true;
        }
        return currentBest;
    }

    private static boolean isAskedOfDay(int what) {
        return (what >= 0 && what <= 4) || (what >= 10 && what < 10 + MOST_APPLIANCES);
    }

    private static boolean arePairs(Sheet row, int i, int n) {
        for (int p = 0; p < n; p++) {
            if (!isPair(row.cells[i + 2 * p], row.cells[i + 2 * p + 1])) {
                return false;
            }
        }
        return true;
    }

    private static boolean isPair(int v, int act) {
        if (act >= 0 && act < MOST_APPLIANCES * MOST_LEVELS) {
            return isLevelValue(v);
        }
        return (act == 20 || (act >= 30 && act < 30 + MOST_TIMES)) && isMeterValue(v);
    }

    private int liveTrialDay(Sheet row, int i, int n) {
        trial.become(current);
        for (int p = 0; p < n; p++) {
            if (!trial.acted(row.cells[i + 2 * p], row.cells[i + 2 * p + 1])) {
                return p;
            }
        }
        return NONE;
    }

    private int answerOfTrialDay(int what) {
        unmixer.unmix(trial, trialBest);
        if (what >= 10) {
            return trial.hasAppliance(what - 10) ? trialBest.energies[what - 10] : NONE;
        }
        // A day's 1 is its first wrong, so that its other numbers are one further on than those of best().
        return trialBest.numberOf(what == 0 ? 0 : what - 1);
    }

    /** By how much the powers grow if just the appliances of a set go on by one from the time ahead. */
    private int powerGain(Doing best, int t, int set) {
        int gain = 0;
        for (int a = 0; a < current.appliances; a++) {
            if ((set >> a & 1) == 1) {
                int before = best.stateAhead(t, a);
                gain += current.powerIn(a, current.stateAfter(a, before)) - current.powerIn(a, before);
            }
        }
        return gain;
    }

    /** A guess is a kind, or KINDS and a first level less 1. */
    private boolean readingsHold(int a, int guess) {
        if (readings == 0) {
            return true;
        }
        if (!guesses.isKnown(a, guess)) {
            unmixGuess(a, guess);
            guesses.keep(a, guess, trialBest);
        }
        for (int r = 0; r < readings; r++) {
            if (guesses.energyOf(a, guess, readingAppliances[r]) != readingEnergies[r]) {
                return false;
            }
        }
        return true;
    }

    private void unmixGuess(int a, int guess) {
        trial.become(current);
        if (guess < KINDS) {
            trial.kindOf[a] = guess;
        } else {
            trial.setLevel(a, 0, guess - KINDS + 1);
        }
        unmixer.unmix(trial, trialBest);
    }

    /** The greatest number that divides both; the lower one, if the upper one is 0. */
    private static int commonDivisor(int upper, int lower) {
        for (int d = lower; d > 1; d--) {
            if (upper % d == 0 && lower % d == 0) {
                return d;
            }
        }
        return 1;
    }

    /**
     * The bits of the binary fraction that is nearest to upper by lower. It is made of whole numbers, since no
     * library call that tells a fraction's bits may be used. The numbers are below 2000, so nothing overflows
     * and no answer is below the least normal number.
     */
    private static long nearestBits(long upper, long lower, int fraction, int bias) {
        if (upper <= 0 || lower <= 0) {
            return 0;
        }
        long leading = 1L << fraction;
        long scaled = upper;
        int shift = 0;
        while (shift < MOST_SHIFTS && scaled / lower < leading) {
            scaled <<= 1;
            shift++;
        }
        long digits = scaled / lower;
        long twiceLeft = 2 * (scaled % lower);
        if (twiceLeft > lower || (twiceLeft == lower && (digits & 1) == 1)) {
            digits++;
        }
        // Digits that were rounded up to the next power of two carry into the exponent, as they should.
        return ((long) (fraction - shift + bias) << fraction) + (digits - leading);
    }

    private void leaveTrace(int body) {
        traceNumber = 31 * traceNumber + body;
    }

    private int tellPlain(int a) {
        leaveTrace(1);
        return current.levelsOf[a];
    }

    private int tellHeavy(int a) {
        leaveTrace(2);
        return tellPlain(a) + 100;
    }

    private int tellDouble(int a) {
        leaveTrace(3);
        int heavy = tellHeavy(a);
        return heavy + tellPlain(a);
    }

    private int lentMetering(int a) {
        leaveTrace(4);
        int together = 0;
        for (int k = 0; k < current.levelsOf[a]; k++) {
            together += current.toldLevel(a, k);
        }
        return together;
    }

    private int ownMetering() {
        leaveTrace(5);
        return 90;
    }

    /** The appliances, the meter and the base. */
    private static final class House {
        final int[] kindOf = new int[MOST_APPLIANCES];
        final int[] levelsOf = new int[MOST_APPLIANCES];
        final int[] told = new int[MOST_APPLIANCES * MOST_LEVELS];
        final int[] values = new int[MOST_TIMES];
        int appliances;
        int times;
        int always;

        void become(House other) {
            System.arraycopy(other.kindOf, 0, kindOf, 0, MOST_APPLIANCES);
            System.arraycopy(other.levelsOf, 0, levelsOf, 0, MOST_APPLIANCES);
            System.arraycopy(other.told, 0, told, 0, MOST_APPLIANCES * MOST_LEVELS);
            System.arraycopy(other.values, 0, values, 0, MOST_TIMES);
            appliances = other.appliances;
            times = other.times;
            always = other.always;
        }

        boolean hasAppliance(int a) {
            return a >= 0 && a < appliances;
        }

        boolean hasLevel(int a, int k) {
            return k >= 0 && k < levelsOf[a];
        }

        boolean hasTime(int t) {
            return t >= 0 && t < times;
        }

        boolean addAppliance(int kind) {
            if (appliances >= MOST_APPLIANCES) {
                return false;
            }
            kindOf[appliances] = kind;
            levelsOf[appliances] = 0;
            appliances++;
            return true;
        }

        boolean addLevel(int v) {
            int a = appliances - 1;
            if (a < 0 || levelsOf[a] >= MOST_LEVELS) {
                return false;
            }
            levelsOf[a]++;
            setLevel(a, levelsOf[a] - 1, v);
            return true;
        }

        int toldLevel(int a, int k) {
            return told[MOST_LEVELS * a + k];
        }

        void setLevel(int a, int k, int v) {
            told[MOST_LEVELS * a + k] = v;
        }

        int powerOf(int a, int k) {
            return powerIn(a, k + 1);
        }

        int powerIn(int a, int state) {
            if (state == OFF) {
                return 0;
            }
            int plain = told[MOST_LEVELS * a + state - 1];
            switch (kindOf[a]) {
                case PLAIN:
                    return plain;
                case HEAVY:
                    return plain + 1;
                default:
                    return 2 * plain;
            }
        }

        int stateAfter(int a, int state) {
            return state < levelsOf[a] ? state + 1 : OFF;
        }

        int allLevels() {
            int count = 0;
            for (int a = 0; a < appliances; a++) {
                count += levelsOf[a];
            }
            return count;
        }

        int allValues() {
            int together = 0;
            for (int t = 0; t < times; t++) {
                together += values[t];
            }
            return together;
        }

        int jumpTo(int t) {
            return values[t] - (t == 0 ? always : values[t - 1]);
        }

        boolean allowsBase(int v) {
            for (int t = 0; t < times; t++) {
                if (values[t] < v) {
                    return false;
                }
            }
            return true;
        }

        /** Does one act of a day, if it can be. */
        boolean acted(int v, int act) {
            if (act == 20) {
                return actedOnBase(v);
            }
            return act >= 30 ? actedOnValue(v, act - 30) : actedOnLevel(v, act / MOST_LEVELS, act % MOST_LEVELS);
        }

        private boolean actedOnBase(int v) {
            if (!allowsBase(v)) {
                return false;
            }
            always = v;
            return true;
        }

        private boolean actedOnValue(int v, int t) {
            if (!hasTime(t) || v < always) {
                return false;
            }
            values[t] = v;
            return true;
        }

        private boolean actedOnLevel(int v, int a, int k) {
            if (!hasAppliance(a) || !hasLevel(a, k)) {
                return false;
            }
            setLevel(a, k, v);
            return true;
        }
    }

    /** Reads a text, code by code, into a house of its own, so that the current one stays until the text is whole. */
    private static final class TextReader {
        private static final int OPENING = 0, FIRST_MARK = 1, KIND = 2, FIRST_LEVEL = 3, MORE = 4;

        final House house = new House();
        private int awaits;

        /** NONE, if the text is whole. */
        int firstFault(Sheet text, int i, int n) {
            // Its meter is never filled and its base never set: a house by a text has neither.
            house.appliances = 0;
            awaits = OPENING;
            for (int p = 0; p < n; p++) {
                if (!goesOn(text.cells[i + p])) {
                    return p;
                }
            }
            return awaits == MORE ? NONE : n;
        }

        private boolean goesOn(int code) {
            switch (awaits) {
                case OPENING:
                    return takesOpening(code);
                case FIRST_MARK:
                    return takesMark(code);
                case KIND:
                    return takesKind(code);
                case FIRST_LEVEL:
                    return takesLevel(code);
                default:
                    return takesLevel(code) || takesMark(code);
            }
        }

        private boolean takesOpening(int code) {
            awaits = FIRST_MARK;
            return code == 'u';
        }

        private boolean takesMark(int code) {
            awaits = KIND;
            return code == ';' && house.appliances < MOST_APPLIANCES;
        }

        private boolean takesKind(int code) {
            awaits = FIRST_LEVEL;
            switch (code) {
                case 'P':
                    return house.addAppliance(PLAIN);
                case 'H':
                    return house.addAppliance(HEAVY);
                case 'D':
                    return house.addAppliance(DOUBLE);
                default:
                    return false;
            }
        }

        private boolean takesLevel(int code) {
            awaits = MORE;
            return isLevelValue(code - '0') && house.addLevel(code - '0');
        }
    }

    /** What all appliances do, time by time, and what follows from it. */
    private static final class Doing {
        private final int[] states = new int[MOST_TIMES * MOST_APPLIANCES];
        final int[] energies = new int[MOST_APPLIANCES];
        private int allEnergies;
        private int allRests;
        private int changes;
        private int starts;

        int stateOf(int t, int a) {
            return states[t * MOST_APPLIANCES + a];
        }

        int stateAhead(int t, int a) {
            return t == 0 ? OFF : stateOf(t - 1, a);
        }

        int numberOf(int what) {
            switch (what) {
                case 0:
                    return allRests;
                case 1:
                    return changes;
                case 2:
                    return starts;
                default:
                    return allEnergies;
            }
        }

        void begin(House house) {
            Arrays.fill(energies, 0);
            allEnergies = 0;
            allRests = house.allValues() - house.times * house.always;
            changes = 0;
            starts = 0;
        }

        void add(House house, int t, int a, boolean isGoingOn) {
            int before = stateAhead(t, a);
            int state = isGoingOn ? house.stateAfter(a, before) : before;
            int power = house.powerIn(a, state);
            states[t * MOST_APPLIANCES + a] = state;
            energies[a] += power;
            allEnergies += power;
            allRests -= power;
            if (isGoingOn) {
                changes++;
                starts += before == OFF ? 1 : 0;
            }
        }
    }

    /**
     * Finds what is done best. A mix tells how all appliances are at one time, as one number in which the first
     * appliance weighs the most: of two mixes the lesser number is the one that the document prefers.
     */
    private static final class Unmixer {
        /** More than any changes together: four appliances at twenty times. */
        private static final int COST_OF_REST = 1000;
        /** Far above every cost, and far enough below the greatest int to add all costs to it. */
        private static final int CANNOT_BE = 1 << 29;

        private final int[] powers = new int[MOST_MIXES];
        private final int[] mixAfter = new int[MOST_APPLIANCES * MOST_MIXES];
        private final int[] costs = new int[MOST_TIMES * MOST_MIXES];
        private int[] ahead = new int[MOST_MIXES];
        private int[] spare = new int[MOST_MIXES];
        private int mixes;

        void unmix(House house, Doing doing) {
            listMixes(house);
            findCosts(house);
            doing.begin(house);
            int mix = 0;
            for (int t = 0; t < house.times; t++) {
                int set = bestSet(house, t, mix);
                mix = mixBehind(house, mix, set);
                for (int a = 0; a < house.appliances; a++) {
                    doing.add(house, t, a, (set >> a & 1) == 1);
                }
            }
        }

        private void listMixes(House house) {
            powers[0] = 0;
            mixes = 1;
            for (int a = house.appliances - 1; a >= 0; a--) {
                listWith(house, a);
            }
        }

        /** Repeats the mixes of the later appliances for each state of this one. */
        private void listWith(House house, int a) {
            int later = mixes;
            for (int state = OFF; state <= house.levelsOf[a]; state++) {
                int power = house.powerIn(a, state);
                int first = state * later;
                int firstAfter = house.stateAfter(a, state) * later;
                for (int m = 0; m < later; m++) {
                    powers[first + m] = powers[m] + power;
                    mixAfter[a * MOST_MIXES + first + m] = firstAfter + m;
                }
                for (int b = a + 1; b < house.appliances; b++) {
                    repeatAfter(b, first, later);
                }
            }
            mixes = later * (house.levelsOf[a] + 1);
        }

        private void repeatAfter(int b, int first, int later) {
            int row = b * MOST_MIXES;
            for (int m = 0; m < later; m++) {
                mixAfter[row + first + m] = first + mixAfter[row + m];
            }
        }

        /** From the last time to the first: what each mix costs with the best that can follow it. */
        private void findCosts(House house) {
            Arrays.fill(ahead, 0);
            for (int t = house.times - 1; t >= 0; t--) {
                int load = house.values[t] - house.always;
                for (int m = 0; m < mixes; m++) {
                    int left = load - powers[m];
                    ahead[m] = left < 0 ? CANNOT_BE : left * COST_OF_REST + ahead[m];
                }
                System.arraycopy(ahead, 0, costs, t * MOST_MIXES, mixes);
                for (int a = 0; a < house.appliances; a++) {
                    letGoOn(a);
                }
            }
        }

        /** One appliance at a time gives the same as all their sets, with far fewer steps. */
        private void letGoOn(int a) {
            int row = a * MOST_MIXES;
            for (int m = 0; m < mixes; m++) {
                spare[m] = Math.min(ahead[m], ahead[mixAfter[row + m]] + 1);
            }
            int[] filled = spare;
            spare = ahead;
            ahead = filled;
        }

        private int bestSet(House house, int t, int mix) {
            int best = 0;
            int bestMix = mix;
            int bestCost = costs[t * MOST_MIXES + mix];
            for (int set = 1; set < 1 << house.appliances; set++) {
                int next = mixBehind(house, mix, set);
                int cost = costs[t * MOST_MIXES + next] + Integer.bitCount(set);
                if (cost < bestCost || (cost == bestCost && next < bestMix)) {
                    best = set;
                    bestMix = next;
                    bestCost = cost;
                }
            }
            return best;
        }

        private int mixBehind(House house, int mix, int set) {
            int next = mix;
            for (int a = 0; a < house.appliances; a++) {
                if ((set >> a & 1) == 1) {
                    next = mixAfter[a * MOST_MIXES + next];
                }
            }
            return next;
        }
    }

    /** The energies under each guess, kept since readings come and go while the house stays as it is. */
    private static final class Guesses {
        private static final int GUESSES = KINDS + HIGHEST_LEVEL;

        private final boolean[] known = new boolean[MOST_APPLIANCES * GUESSES];
        private final int[] energies = new int[MOST_APPLIANCES * GUESSES * MOST_APPLIANCES];

        void forget() {
            for (int g = 0; g < known.length; g++) {
                known[g] = false;
            }
        }

        boolean isKnown(int a, int guess) {
            return known[a * GUESSES + guess];
        }

        int energyOf(int a, int guess, int of) {
            return energies[(a * GUESSES + guess) * MOST_APPLIANCES + of];
        }

        void keep(int a, int guess, Doing doing) {
            int place = a * GUESSES + guess;
            known[place] = true;
            System.arraycopy(doing.energies, 0, energies, place * MOST_APPLIANCES, MOST_APPLIANCES);
        }
    }

    /** A sheet keeps its cells for all rows that it ever gets, so that new rows take no room. */
    private static final class Sheet {
        private static final int NOTHING = -1;

        final int[] cells = new int[MOST_CELLS];
        int lane;
        private int length = NOTHING;

        boolean hasRow() {
            return length != NOTHING;
        }

        void empty() {
            length = NOTHING;
        }

        void renew(int newLane, int n) {
            lane = newLane;
            length = n;
            Arrays.fill(cells, 0);
        }

        boolean holds(int i, int n) {
            return i >= 0 && i <= length && n >= 0 && n <= length - i;
        }

        int cut(int v) {
            switch (lane) {
                case BYTES:
                    return (byte) v;
                case SHORTS:
                    return (short) v;
                default:
                    return v;
            }
        }

        int faultOfRow(int asLane) {
            if (!hasRow()) {
                return NULL_FAULT;
            }
            return lane == asLane ? NO_FAULT : CAST_FAULT;
        }

        int faultOfCells(int asLane, int i, int n) {
            int found = faultOfRow(asLane);
            return found == NO_FAULT && !holds(i, n) ? INDEX_FAULT : found;
        }
    }
}
