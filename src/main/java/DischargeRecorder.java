/**
 * A recorder of partial discharge pulses. What each call does, returns and throws is told by the
 * numbered promises of the document; README.md says how to use the class.
 *
 * All rows are made once, in the constructors: a call makes no object but the exception that it
 * throws.
 */
public final class DischargeRecorder {
    /** There is no such thing. */
    public static final int NONE = -1;

    // The settings, by their numbers in set() and value().
    private static final int SHIFT = 0;
    private static final int INJECTED_CHARGE = 1;
    private static final int LEVEL = 2;
    private static final int GATE_LEVEL = 3;
    private static final int GATE_WIDTH = 4;
    private static final int DEAD_TIME = 5;
    private static final int STEP = 6;
    private static final int BURST_GAP = 7;
    private static final int TREND_INTERVAL = 8;
    private static final int PERSISTENCE = 9;
    private static final int ALARM_LIMIT = 10;
    private static final int SETTINGS = 11;
    private static final int[] LOWEST = {0, 1, 0, 1, 0, 0, 1, 0, 1, 1, 1};
    private static final int[] HIGHEST =
        {359, 1000, 2000, 2000, 100, 1000, 1000, 1000, 1000, 10, 100000};
    private static final int[] INITIAL = {0, 100, 20, 200, 3, 2, 10, 20, 1, 2, 500};

    private static final int MEASURED = 0;
    private static final int ANTENNA = 1;
    private static final int INJECTED = 2;

    private static final int ACCEPTED = 0;
    private static final int QUIET = 1;
    private static final int GATED = 2;
    private static final int BLOCKED = 3;
    private static final int DEAD = 4;
    private static final int ANTENNA_STATUS = 5;
    private static final int INJECTED_STATUS = 6;

    private static final int CYCLE = 360;
    private static final int BIN_PHASES = 10;
    private static final int BINS = 36;
    private static final int HALF_BINS = 18;
    private static final int QUARTER_BINS = 9;
    private static final int LAST_CLASS = 15;
    private static final int LAST_TIME = 1000000;
    private static final int GREATEST_AMPLITUDE = 2000;
    private static final int INTERVALS = 2778;
    // It and all its halves together lead over every level.
    private static final int GREATEST_JUMP = 1024;

    private static final int MOST_PULSES = 250;
    private static final int MOST_WINDOWS = 4;
    private static final int MOST_SAVED = 4;
    private static final int MOST_BYTES = 150;
    private static final int LAST_BYTE = 127;
    // The shortest pulse of a text has five bytes.
    private static final int MOST_TEXT_PULSES = 30;
    private static final int MOST_DIGITS = 4;

    private static final int SYNTAX_ERROR = -10;
    private static final int NOT_RECORDED = -1000;
    private static final long HASH_START = 2957;

    private final Reading reading = new Reading();
    private final State state = reading.state;
    private final Trend trend = new Trend();
    private final History history = new History();
    private final PulseText text = new PulseText();
    private final int[] bins = new int[BINS];
    private final int[] otherBins = new int[BINS];

    public DischargeRecorder() {
    }

    // ---- settings

    public int set(int what, int value) throws IllegalArgumentException {
        if (outside(what, 0, SETTINGS - 1) || outside(value, LOWEST[what], HIGHEST[what])) {
            throw new IllegalArgumentException("what or value is out of range");
        }
        history.save(state);
        int previous = state.settings[what];
        state.settings[what] = value;
        return previous;
    }

    public int value(int what) throws IllegalArgumentException {
        if (outside(what, 0, SETTINGS - 1)) {
            throw new IllegalArgumentException("what is out of range");
        }
        return state.settings[what];
    }

    public int block(int first, int last) throws IllegalArgumentException, IllegalStateException {
        if (outside(first, 0, CYCLE - 1) || outside(last, 0, CYCLE - 1)) {
            throw new IllegalArgumentException("first or last is out of range");
        }
        if (state.windows >= MOST_WINDOWS) {
            throw new IllegalStateException("there are 4 windows");
        }
        history.save(state);
        state.addWindow(first, last);
        return state.windows;
    }

    public int unblock() {
        history.save(state);
        int previous = state.windows;
        state.windows = 0;
        return previous;
    }

    // ---- pulses

    public int record(int kind, int time, int amplitude)
            throws IllegalArgumentException, IllegalStateException {
        if (outside(kind, MEASURED, INJECTED) || outside(time, state.lastTime(), LAST_TIME)
                || outside(amplitude, -GREATEST_AMPLITUDE, GREATEST_AMPLITUDE)) {
            throw new IllegalArgumentException("an argument is out of range");
        }
        if (state.size >= MOST_PULSES) {
            throw new IllegalStateException("there are 250 pulses");
        }
        history.save(state);
        state.addPulse(kind, time, amplitude);
        return state.size - 1;
    }

    public int forget(int time) throws IllegalArgumentException {
        if (outside(time, 0, LAST_TIME)) {
            throw new IllegalArgumentException("time is out of range");
        }
        history.save(state);
        return state.dropBefore(time);
    }

    public int append(int value) throws IllegalArgumentException, IllegalStateException {
        if (outside(value, 0, LAST_BYTE)) {
            throw new IllegalArgumentException("value is out of range");
        }
        if (text.length >= MOST_BYTES) {
            throw new IllegalStateException("the text has 150 bytes");
        }
        text.add(value);
        return text.length;
    }

    public int clearText() {
        int previous = text.length;
        text.length = 0;
        return previous;
    }

    public int parse() {
        int error = text.read();
        if (error != NONE) {
            return SYNTAX_ERROR - error;
        }
        int refused = firstRefused();
        if (refused != NONE) {
            return NOT_RECORDED - refused;
        }
        history.save(state);
        for (int i = 0; i < text.found; i++) {
            state.addPulse(text.kinds[i], state.lastTime() + text.ticks[i], text.amplitudes[i]);
        }
        return text.found;
    }

    /** The first pulse of the text that has been read that the log cannot take, or NONE. */
    private int firstRefused() {
        int time = state.lastTime();
        for (int i = 0; i < text.found; i++) {
            time += text.ticks[i];
            if (time > LAST_TIME || state.size + i >= MOST_PULSES) {
                return i;
            }
        }
        return NONE;
    }

    public int pulses() {
        return state.size;
    }

    public int pulse(int pulse, int what)
            throws IndexOutOfBoundsException, IllegalArgumentException {
        if (outside(pulse, 0, state.size - 1)) {
            throw new IndexOutOfBoundsException("there is no such pulse");
        }
        if (outside(what, 0, 6)) {
            throw new IllegalArgumentException("what is out of range");
        }
        reading.look();
        return reading.aboutPulse(pulse, what);
    }

    public int statuses(int status) throws IllegalArgumentException {
        if (outside(status, ACCEPTED, INJECTED_STATUS)) {
            throw new IllegalArgumentException("status is out of range");
        }
        reading.judge();
        return reading.having(status);
    }

    // ---- phase-resolved counts

    public int count(int bin, int level) throws IllegalArgumentException {
        if (outside(bin, NONE, BINS - 1) || outside(level, NONE, LAST_CLASS)) {
            throw new IllegalArgumentException("bin or level is out of range");
        }
        reading.look();
        int number = 0;
        for (int i = 0; i < state.size; i++) {
            if (reading.status[i] == ACCEPTED && (bin == NONE || state.bin(i) == bin)
                    && (level == NONE || reading.chargeClass(i) == level)) {
                number++;
            }
        }
        return number;
    }

    public int fullest(int from, int to) throws IllegalArgumentException {
        if (noRange(from, to)) {
            throw new IllegalArgumentException("from or to is out of range");
        }
        reading.judge();
        if (reading.fillBins(bins, from, to) == 0) {
            return NONE;
        }
        int best = 0;
        for (int bin = 1; bin < BINS; bin++) {
            if (bins[bin] > bins[best]) {
                best = bin;
            }
        }
        return best;
    }

    public long feature(int half, int from, int to, int what) throws IllegalArgumentException {
        if (outside(half, 0, 1) || noRange(from, to) || outside(what, 0, 5)) {
            throw new IllegalArgumentException("an argument is out of range");
        }
        reading.look();
        return reading.aboutHalf(half, from, to, what);
    }

    public double asymmetry(int from, int to) throws IllegalArgumentException {
        if (noRange(from, to)) {
            throw new IllegalArgumentException("from or to is out of range");
        }
        reading.look();
        long number0 = reading.aboutHalf(0, from, to, 0);
        long number1 = reading.aboutHalf(1, from, to, 0);
        long charge0 = reading.aboutHalf(0, from, to, 2);
        long charge1 = reading.aboutHalf(1, from, to, 2);
        if (number0 == 0 || number1 == 0 || charge0 == 0) {
            return 0.0;
        }
        double mean0 = (double) charge0 / (double) number0;
        double mean1 = (double) charge1 / (double) number1;
        return mean1 / mean0;
    }

    public int pattern(int from, int to) throws IllegalArgumentException {
        if (noRange(from, to)) {
            throw new IllegalArgumentException("from or to is out of range");
        }
        reading.judge();
        return patternClass(reading.fillBins(bins, from, to));
    }

    /** The pattern class of the bins; halves and quarters of a cycle consist of whole bins. */
    private int patternClass(int number) {
        if (number < 10) {
            return 0;
        }
        int half0 = sumOfBins(0, HALF_BINS);
        int half1 = number - half0;
        if (Math.max(half0, half1) * 10 >= 8 * number) {
            return 1;
        }
        int opposite = sumOfBins(0, QUARTER_BINS) + sumOfBins(HALF_BINS, QUARTER_BINS);
        if (opposite * 10 >= 7 * number) {
            return Math.abs(half0 - half1) * 5 <= number ? 2 : 3;
        }
        return filledBins() >= 24 ? 4 : 5;
    }

    private int sumOfBins(int first, int number) {
        int sum = 0;
        for (int bin = first; bin < first + number && bin < BINS; bin++) {
            sum += bins[bin];
        }
        return sum;
    }

    private int filledBins() {
        int filled = 0;
        for (int bin = 0; bin < BINS; bin++) {
            if (bins[bin] > 0) {
                filled++;
            }
        }
        return filled;
    }

    public int similarity(int from1, int to1, int from2, int to2)
            throws IllegalArgumentException {
        if (noRange(from1, to1) || noRange(from2, to2)) {
            throw new IllegalArgumentException("an argument is out of range");
        }
        reading.judge();
        int all = reading.fillBins(bins, from1, to1);
        int otherAll = reading.fillBins(otherBins, from2, to2);
        if (all == 0 || otherAll == 0) {
            return 0;
        }
        int sum = 0;
        for (int bin = 0; bin < BINS; bin++) {
            sum += Math.min(bins[bin] * otherAll, otherBins[bin] * all);
        }
        return 1000 * sum / (all * otherAll);
    }

    // ---- bursts

    public int bursts() {
        reading.look();
        return reading.burstNumber;
    }

    public long burst(int burst, int what)
            throws IndexOutOfBoundsException, IllegalArgumentException {
        reading.look();
        if (outside(burst, 0, reading.burstNumber - 1)) {
            throw new IndexOutOfBoundsException("there is no such burst");
        }
        if (outside(what, 0, 3)) {
            throw new IllegalArgumentException("what is out of range");
        }
        return reading.aboutBurst(burst, what);
    }

    // ---- trend

    public long interval(int interval, int what)
            throws IndexOutOfBoundsException, IllegalArgumentException {
        if (outside(interval, 0, INTERVALS - 1)) {
            throw new IndexOutOfBoundsException("interval is out of range");
        }
        if (outside(what, 0, 4)) {
            throw new IllegalArgumentException("what is out of range");
        }
        reading.look();
        trend.fill(reading);
        long from = trend.start(interval);
        long to = trend.start(interval + 1) - 1;
        switch (what) {
            case 0:
                return reading.numberIn(from, to);
            case 1:
                return trend.peaks[interval];
            case 2:
                return reading.chargeIn(from, to);
            case 3:
                return trend.hasLimitAlarm(interval) ? 1 : 0;
            default:
                return trend.hasGrowthAlarm(interval) ? 1 : 0;
        }
    }

    public int firstAlarm(boolean growth) {
        reading.look();
        trend.fill(reading);
        for (int k = 0; k < INTERVALS; k++) {
            if (growth ? trend.hasGrowthAlarm(k) : trend.hasLimitAlarm(k)) {
                return k;
            }
        }
        return NONE;
    }

    // ---- what if

    public int statusesWith(int level, int gateLevel, int gateWidth, int deadTime, int status)
            throws IllegalArgumentException {
        if (noSetting(LEVEL, level) || noSetting(GATE_LEVEL, gateLevel)
                || noSetting(GATE_WIDTH, gateWidth) || noSetting(DEAD_TIME, deadTime)
                || outside(status, ACCEPTED, INJECTED_STATUS)) {
            throw new IllegalArgumentException("an argument is out of range");
        }
        reading.gate(gateLevel, gateWidth);
        reading.assign(level, deadTime);
        return reading.having(status);
    }

    public int levelFor(int most) throws IllegalArgumentException {
        if (outside(most, 0, MOST_PULSES)) {
            throw new IllegalArgumentException("most is out of range");
        }
        reading.gate(state.settings[GATE_LEVEL], state.settings[GATE_WIDTH]);
        // Halving is sound, as a higher level never accepts more pulses: the n-th pulse that it
        // accepts is not before the n-th one that a lower level accepts, whatever the dead time.
        int tooLow = NONE;
        for (int jump = GREATEST_JUMP; jump > 0; jump /= 2) {
            int level = tooLow + jump;
            if (level <= HIGHEST[LEVEL] && acceptedWith(level) > most) {
                tooLow = level;
            }
        }
        return tooLow < HIGHEST[LEVEL] ? tooLow + 1 : NONE;
    }

    /** How many pulses a level accepts, with the gates as they have been marked last. */
    private int acceptedWith(int level) {
        reading.assign(level, state.settings[DEAD_TIME]);
        return reading.having(ACCEPTED);
    }

    // ---- state

    public int undo() throws IllegalStateException {
        if (history.number == 0) {
            throw new IllegalStateException("there is no saved state");
        }
        history.restore(state);
        return history.number;
    }

    public long digest() {
        reading.look();
        long h = mix(HASH_START, text.length);
        for (int what = 0; what < SETTINGS; what++) {
            h = mix(h, state.settings[what]);
        }
        h = mix(h, state.windows);
        for (int i = 0; i < state.windows; i++) {
            h = mix(mix(h, state.firsts[i]), state.lasts[i]);
        }
        h = mix(h, state.size);
        for (int i = 0; i < state.size; i++) {
            for (int what = 0; what <= 6; what++) {
                h = mix(h, reading.aboutPulse(i, what));
            }
        }
        return mix(mix(h, reading.burstNumber), history.number);
    }

    private static long mix(long hash, long value) {
        return 31 * hash + value;
    }

    // ---- ranges of arguments

    private static boolean outside(int value, int lowest, int highest) {
        return value < lowest || value > highest;
    }

    private static boolean noRange(int from, int to) {
        return from < 0 || from > to || to > LAST_TIME;
    }

    private static boolean noSetting(int what, int value) {
        return outside(what, 0, SETTINGS - 1) || outside(value, LOWEST[what], HIGHEST[what]);
    }

    /** The settings, the blocked windows and the log: all that undo() brings back. */
    private static final class State {
        private final int[] settings = new int[SETTINGS];
        private final int[] firsts = new int[MOST_WINDOWS];
        private final int[] lasts = new int[MOST_WINDOWS];
        private final int[] kinds = new int[MOST_PULSES];
        private final int[] times = new int[MOST_PULSES];
        private final int[] amplitudes = new int[MOST_PULSES];
        private int windows = 0;
        private int size = 0;

        private State() {
            for (int what = 0; what < SETTINGS; what++) {
                settings[what] = INITIAL[what];
            }
        }

        private void takeFrom(State other) {
            System.arraycopy(other.settings, 0, settings, 0, SETTINGS);
            System.arraycopy(other.firsts, 0, firsts, 0, MOST_WINDOWS);
            System.arraycopy(other.lasts, 0, lasts, 0, MOST_WINDOWS);
            System.arraycopy(other.kinds, 0, kinds, 0, MOST_PULSES);
            System.arraycopy(other.times, 0, times, 0, MOST_PULSES);
            System.arraycopy(other.amplitudes, 0, amplitudes, 0, MOST_PULSES);
            windows = other.windows;
            size = other.size;
        }

        private void addWindow(int first, int last) {
            if (windows < MOST_WINDOWS) {
                firsts[windows] = first;
                lasts[windows] = last;
                windows++;
            }
        }

        private void addPulse(int kind, int time, int amplitude) {
            if (size < MOST_PULSES) {
                kinds[size] = kind;
                times[size] = time;
                amplitudes[size] = amplitude;
                size++;
            }
        }

        /** The time of the last pulse, 0 in an empty log. */
        private int lastTime() {
            return size > 0 ? times[size - 1] : 0;
        }

        private int dropBefore(int time) {
            int kept = 0;
            for (int i = 0; i < size; i++) {
                if (times[i] >= time) {
                    kinds[kept] = kinds[i];
                    times[kept] = times[i];
                    amplitudes[kept] = amplitudes[i];
                    kept++;
                }
            }
            int dropped = size - kept;
            size = kept;
            return dropped;
        }

        private int absolute(int pulse) {
            return Math.abs(amplitudes[pulse]);
        }

        private int phase(int pulse) {
            return (times[pulse] + settings[SHIFT]) % CYCLE;
        }

        private int bin(int pulse) {
            return phase(pulse) / BIN_PHASES;
        }

        private boolean isBlocked(int phase) {
            for (int i = 0; i < windows; i++) {
                boolean over = lasts[i] < firsts[i];
                boolean fromFirst = phase >= firsts[i];
                boolean toLast = phase <= lasts[i];
                if (over ? fromFirst || toLast : fromFirst && toLast) {
                    return true;
                }
            }
            return false;
        }
    }

    /** The saved states, the oldest one first. */
    private static final class History {
        private final State[] states = new State[MOST_SAVED];
        private int number = 0;

        private History() {
            for (int i = 0; i < MOST_SAVED; i++) {
                states[i] = new State();
            }
        }

        private void save(State state) {
            if (number == MOST_SAVED) {
                dropOldest();
            }
            State free = states[number];
            if (free != null) {
                free.takeFrom(state);
                number++;
            }
        }

        /** Drops the oldest state and keeps its rows for the next one. */
        private void dropOldest() {
            State oldest = states[0];
            for (int i = 1; i < MOST_SAVED; i++) {
                states[i - 1] = states[i];
            }
            states[MOST_SAVED - 1] = oldest;
            number = MOST_SAVED - 1;
        }

        private void restore(State state) {
            if (number > 0) {
                State newest = states[number - 1];
                if (newest != null) {
                    state.takeFrom(newest);
                }
                number--;
            }
        }
    }

    /** The pulse text, and the pulses that were found in it when it was read last. */
    private static final class PulseText {
        private final int[] bytes = new int[MOST_BYTES];
        private int length = 0;
        private final int[] kinds = new int[MOST_TEXT_PULSES];
        private final int[] ticks = new int[MOST_TEXT_PULSES];
        private final int[] amplitudes = new int[MOST_TEXT_PULSES];
        private int found = 0;
        private int at = 0;
        // While it is not NONE, nothing more is read.
        private int error = NONE;

        private void add(int value) {
            if (length < MOST_BYTES) {
                bytes[length] = value;
                length++;
            }
        }

        /** Reads the text from its start; answers the syntax error position, or NONE. */
        private int read() {
            found = 0;
            at = 0;
            error = NONE;
            for (int i = 0; i < MOST_TEXT_PULSES && at < length && error == NONE; i++) {
                readPulse();
            }
            return error;
        }

        private void readPulse() {
            int kind = readKind();
            int tick = readNumber();
            int sign = readSign();
            int amplitude = readAmplitude();
            readSemicolon();
            if (error == NONE && found < MOST_TEXT_PULSES) {
                kinds[found] = kind;
                ticks[found] = tick;
                amplitudes[found] = sign * amplitude;
                found++;
            }
        }

        /** The byte that is next, or NONE at the end of the text. */
        private int next() {
            return at < length && at < MOST_BYTES ? bytes[at] : NONE;
        }

        private boolean isDigitNext() {
            int value = next();
            return value >= '0' && value <= '9';
        }

        private int readKind() {
            int value = next();
            int kind = value == 'm' ? MEASURED : value == 'n' ? ANTENNA : INJECTED;
            step(value == 'm' || value == 'n' || value == 'i');
            return kind;
        }

        private int readSign() {
            int value = next();
            step(value == '+' || value == '-');
            return value == '-' ? -1 : 1;
        }

        private void readSemicolon() {
            step(next() == ';');
        }

        /** Goes over the next byte if it can stand there; otherwise it is the error. */
        private void step(boolean fits) {
            if (error == NONE) {
                if (fits) {
                    at++;
                } else {
                    error = at;
                }
            }
        }

        private int readNumber() {
            int number = next() - '0';
            step(isDigitNext());
            for (int i = 1; i < MOST_DIGITS && error == NONE && isDigitNext(); i++) {
                number = number * 10 + next() - '0';
                at++;
            }
            return number;
        }

        /** A digit behind the fourth one is the error itself: the number is not complete then. */
        private int readAmplitude() {
            int first = at;
            int number = readNumber();
            if (error == NONE && number > GREATEST_AMPLITUDE && !isDigitNext()) {
                error = first;
            }
            return number;
        }
    }

    /** The state, and what follows from it: the statuses, charges and bursts of its pulses. */
    private static final class Reading {
        private final State state = new State();
        private final boolean[] gated = new boolean[MOST_PULSES];
        private final int[] status = new int[MOST_PULSES];
        private final long[] charge = new long[MOST_PULSES];
        private final int[] burstOf = new int[MOST_PULSES];
        private int burstNumber = 0;

        private void look() {
            judge();
            weigh();
            group();
        }

        private void judge() {
            gate(state.settings[GATE_LEVEL], state.settings[GATE_WIDTH]);
            assign(state.settings[LEVEL], state.settings[DEAD_TIME]);
        }

        /** Marks the pulses near an antenna pulse: of those before and behind, the nearest tells. */
        private void gate(int gateLevel, int gateWidth) {
            int farAway = 2 * LAST_TIME;
            int before = -farAway;
            for (int i = 0; i < state.size; i++) {
                if (opensGate(i, gateLevel)) {
                    before = state.times[i];
                }
                gated[i] = state.times[i] - before <= gateWidth;
            }
            int behind = farAway;
            for (int i = state.size - 1; i >= 0; i--) {
                if (opensGate(i, gateLevel)) {
                    behind = state.times[i];
                }
                if (behind - state.times[i] <= gateWidth) {
                    gated[i] = true;
                }
            }
        }

        private boolean opensGate(int pulse, int gateLevel) {
            return state.kinds[pulse] == ANTENNA && state.absolute(pulse) >= gateLevel;
        }

        /** Gives each pulse its status, with the gates as they have been marked last. */
        private void assign(int level, int deadTime) {
            int deadUntil = 0;
            for (int i = 0; i < state.size; i++) {
                status[i] = statusOf(i, level, deadUntil);
                if (status[i] == ACCEPTED) {
                    deadUntil = state.times[i] + deadTime;
                }
            }
        }

        private int statusOf(int pulse, int level, int deadUntil) {
            if (state.kinds[pulse] != MEASURED) {
                return state.kinds[pulse] == ANTENNA ? ANTENNA_STATUS : INJECTED_STATUS;
            }
            if (state.absolute(pulse) < level) {
                return QUIET;
            }
            if (gated[pulse]) {
                return GATED;
            }
            if (state.isBlocked(state.phase(pulse))) {
                return BLOCKED;
            }
            return state.times[pulse] < deadUntil ? DEAD : ACCEPTED;
        }

        private void weigh() {
            long injected = 0;
            long sum = 0;
            for (int i = 0; i < state.size; i++) {
                if (state.kinds[i] == INJECTED) {
                    injected++;
                    sum += state.absolute(i);
                }
            }
            long factor = injected * state.settings[INJECTED_CHARGE];
            for (int i = 0; i < state.size; i++) {
                long size = state.absolute(i);
                charge[i] = sum > 0 ? size * factor / sum : size;
            }
        }

        private void group() {
            int lastTime = 0;
            burstNumber = 0;
            for (int i = 0; i < state.size; i++) {
                burstOf[i] = NONE;
                if (status[i] == ACCEPTED) {
                    boolean near = state.times[i] - lastTime <= state.settings[BURST_GAP];
                    if (burstNumber == 0 || !near) {
                        burstNumber++;
                    }
                    burstOf[i] = burstNumber - 1;
                    lastTime = state.times[i];
                }
            }
        }

        private int aboutPulse(int pulse, int what) {
            switch (what) {
                case 0:
                    return state.kinds[pulse];
                case 1:
                    return state.times[pulse];
                case 2:
                    return state.amplitudes[pulse];
                case 3:
                    return state.phase(pulse);
                case 4:
                    return (int) charge[pulse];
                case 5:
                    return status[pulse];
                default:
                    return burstOf[pulse];
            }
        }

        private int having(int wanted) {
            int number = 0;
            for (int i = 0; i < state.size; i++) {
                if (status[i] == wanted) {
                    number++;
                }
            }
            return number;
        }

        private int chargeClass(int pulse) {
            int step = state.settings[STEP];
            long level = step > 0 ? charge[pulse] / step : 0;
            return level < LAST_CLASS ? (int) level : LAST_CLASS;
        }

        private boolean isAccepted(int pulse, long from, long to) {
            long time = state.times[pulse];
            return status[pulse] == ACCEPTED && time >= from && time <= to;
        }

        private long numberIn(long from, long to) {
            long number = 0;
            for (int i = 0; i < state.size; i++) {
                number += isAccepted(i, from, to) ? 1 : 0;
            }
            return number;
        }

        private long chargeIn(long from, long to) {
            long sum = 0;
            for (int i = 0; i < state.size; i++) {
                sum += isAccepted(i, from, to) ? charge[i] : 0;
            }
            return sum;
        }

        /** Counts the accepted pulses of a range in each bin; answers how many there are in all. */
        private int fillBins(int[] row, int from, int to) {
            for (int bin = 0; bin < BINS && bin < row.length; bin++) {
                row[bin] = 0;
            }
            int number = 0;
            for (int i = 0; i < state.size; i++) {
                int bin = state.bin(i);
                if (isAccepted(i, from, to) && bin >= 0 && bin < row.length) {
                    row[bin]++;
                    number++;
                }
            }
            return number;
        }

        private long aboutHalf(int half, int from, int to, int what) {
            long number = 0;
            long greatest = 0;
            long sum = 0;
            long positive = 0;
            long lowest = NONE;
            long highest = NONE;
            for (int i = 0; i < state.size; i++) {
                if (isAccepted(i, from, to) && state.bin(i) / HALF_BINS == half) {
                    int phase = state.phase(i);
                    number++;
                    greatest = Math.max(greatest, charge[i]);
                    sum += charge[i];
                    positive += state.amplitudes[i] >= 0 ? 1 : 0;
                    lowest = number == 1 ? phase : Math.min(lowest, phase);
                    highest = Math.max(highest, phase);
                }
            }
            switch (what) {
                case 0:
                    return number;
                case 1:
                    return greatest;
                case 2:
                    return sum;
                case 3:
                    return positive;
                case 4:
                    return lowest;
                default:
                    return highest;
            }
        }

        private long aboutBurst(int burst, int what) {
            long number = 0;
            long first = NONE;
            long last = NONE;
            long sum = 0;
            for (int i = 0; i < state.size; i++) {
                if (burstOf[i] == burst) {
                    first = number == 0 ? state.times[i] : first;
                    last = state.times[i];
                    sum += charge[i];
                    number++;
                }
            }
            switch (what) {
                case 0:
                    return number;
                case 1:
                    return first;
                case 2:
                    return last;
                default:
                    return sum;
            }
        }
    }

    /** The peaks of the intervals, and the alarms that follow from them. */
    private static final class Trend {
        private final long[] peaks = new long[INTERVALS];
        private int ticks = CYCLE;
        private int persistence = 1;
        private int limit = 1;

        private void fill(Reading reading) {
            State state = reading.state;
            ticks = CYCLE * state.settings[TREND_INTERVAL];
            persistence = state.settings[PERSISTENCE];
            limit = state.settings[ALARM_LIMIT];
            for (int k = 0; k < INTERVALS; k++) {
                peaks[k] = 0;
            }
            for (int i = 0; i < state.size; i++) {
                int k = ticks > 0 ? state.times[i] / ticks : 0;
                if (reading.status[i] == ACCEPTED && k >= 0 && k < INTERVALS) {
                    peaks[k] = Math.max(peaks[k], reading.charge[i]);
                }
            }
        }

        private long start(int interval) {
            return (long) interval * ticks;
        }

        private boolean hasLimitAlarm(int interval) {
            int first = interval - persistence + 1;
            if (first < 0) {
                return false;
            }
            for (int k = first; k <= interval && k < INTERVALS; k++) {
                if (peaks[k] < limit) {
                    return false;
                }
            }
            return true;
        }

        private boolean hasGrowthAlarm(int interval) {
            if (interval < 3 || interval >= INTERVALS || peaks[interval] <= 0) {
                return false;
            }
            long before = peaks[interval - 1] + peaks[interval - 2] + peaks[interval - 3];
            return 3 * peaks[interval] >= 2 * before;
        }
    }
}
