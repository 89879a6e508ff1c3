import java.util.Random;

/**
 * Runs of calls drawn by chance, with fixed seeds, on the recorder and on the plain model: each
 * call must answer, or throw, the same on both.
 */
final class RandomRunsTest {
    private static final int CALLS = 512;
    private static final int[] TOP =
        {359, 1000, 2000, 2000, 100, 1000, 1000, 1000, 1000, 10, 100000};

    private final Random chance;
    private final String name;
    private final DischargeRecorder x = new DischargeRecorder();
    private final PlainModel model = new PlainModel();
    // The ticks between two pulses: a step of so many, now and then, and a spread. Steps of half
    // a cycle make patterns. And how often a call is a query.
    private final int step;
    private final int spread;
    private final int queries;
    private int last = 0;
    private int calls = 0;

    private RandomRunsTest(long seed) {
        chance = new Random(seed);
        name = "seed " + seed;
        int[] steps = {0, 0, 180, 360};
        step = steps[chance.nextInt(steps.length)];
        int[] spreads = {2, 6, 30, 300, 2000};
        spread = spreads[chance.nextInt(spreads.length)];
        int[] parts = {10, 40, 75};
        queries = parts[chance.nextInt(parts.length)];
    }

    public static void main(String[] args) {
        int runs = args.length > 0 ? Integer.parseInt(args[0]) : 600;
        for (int seed = 0; seed < runs; seed++) {
            new RandomRunsTest(seed).run();
        }
        Checks.end();
    }

    /** What an object answers after its 512th call is free, so no more calls are made then. */
    private void same(String call, Checks.Call theirs, Checks.Call ours) {
        if (calls < CALLS) {
            calls++;
            Checks.due(name + ": " + call, Checks.answer(theirs), ours);
        }
    }

    private void run() {
        while (calls < CALLS - 1) {
            if (chance.nextInt(100) < queries) {
                query();
            } else {
                change();
            }
        }
        same("digest at the end", model::digest, x::digest);
    }

    /** A number of a range, often one of its ends, now and then one beyond them, or far away. */
    private int in(int low, int high) {
        if (chance.nextInt(300) == 0) {
            return chance.nextBoolean() ? Integer.MIN_VALUE : Integer.MAX_VALUE;
        }
        switch (chance.nextInt(16)) {
            case 0: return low;
            case 1: return high;
            case 2: return chance.nextInt(8) == 0 ? low - 1 : low;
            case 3: return chance.nextInt(8) == 0 ? high + 1 : high;
            case 4: return Math.min(high, low + chance.nextInt(4));
            default: return low + chance.nextInt(high - low + 1);
        }
    }

    private int time() {
        switch (chance.nextInt(8)) {
            case 0: return in(0, 1000000);
            case 1: return 0;
            case 2: return 1000000;
            default: return chance.nextInt(Math.max(1, Math.min(1000001, last + spread)));
        }
    }

    private int amplitude() {
        int size = chance.nextInt(3) == 0 ? in(0, 2000) : chance.nextInt(400);
        return chance.nextBoolean() ? size : -size;
    }

    private int kind() {
        int part = chance.nextInt(20);
        return part < 14 ? 0 : part < 17 ? 1 : part < 19 ? 2 : in(0, 2);
    }

    private void change() {
        int part = chance.nextInt(100);
        if (part < 70) {
            record();
        } else if (part < 80) {
            set();
        } else if (part < 84) {
            int first = in(0, 359);
            int end = chance.nextInt(3) == 0 ? in(0, 359) : (first + chance.nextInt(30)) % 360;
            same("block " + first + " " + end, () -> model.block(first, end),
                () -> x.block(first, end));
        } else if (part < 86) {
            same("unblock", model::unblock, x::unblock);
        } else if (part < 90) {
            same("undo", model::undo, x::undo);
            last = model.pulses() == 0 ? 0 : model.pulse(model.pulses() - 1, 1);
        } else if (part < 92) {
            int time = chance.nextInt(6) == 0 ? in(0, 1000000)
                : chance.nextInt(Math.max(1, last / 2));
            same("forget " + time, () -> model.forget(time), () -> x.forget(time));
        } else if (part < 98) {
            text();
        } else {
            same("parse", model::parse, x::parse);
        }
    }

    private void record() {
        int kind = kind();
        int jump = chance.nextBoolean() ? step : 0;
        int time = chance.nextInt(300) == 0 ? time()
            : Math.min(1000001, last + jump + chance.nextInt(spread));
        int amplitude = amplitude();
        same("record " + kind + " " + time + " " + amplitude,
            () -> model.record(kind, time, amplitude), () -> x.record(kind, time, amplitude));
        last = model.pulses() == 0 ? 0 : model.pulse(model.pulses() - 1, 1);
    }

    private void set() {
        int what = in(0, 10);
        int top = what >= 0 && what <= 10 ? TOP[what] : 10;
        // Small values leave the most to be seen.
        int value = chance.nextInt(3) == 0 ? in(0, top)
            : 1 + chance.nextInt(Math.min(top, what == 8 ? 3 : what == 10 ? 300 : 60));
        same("set " + what + " " + value, () -> model.set(what, value), () -> x.set(what, value));
    }

    /** A few bytes for the text, mostly a whole pulse, and often a call of parse() behind it. */
    private void text() {
        if (chance.nextInt(4) == 0) {
            same("clearText", model::clearText, x::clearText);
        }
        StringBuilder made = new StringBuilder();
        made.append("mni".charAt(chance.nextInt(3))).append(chance.nextInt(spread));
        made.append(chance.nextBoolean() ? '+' : '-').append(Math.abs(amplitude())).append(';');
        if (chance.nextInt(4) == 0) {
            int at = chance.nextInt(made.length());
            char odd = "mni0129+-; x".charAt(chance.nextInt(12));
            if (chance.nextBoolean()) {
                made.setCharAt(at, odd);
            } else {
                made.insert(at, odd);
            }
        }
        for (int i = 0; i < made.length(); i++) {
            int value = chance.nextInt(300) == 0 ? in(0, 127) : made.charAt(i);
            same("append " + value, () -> model.append(value), () -> x.append(value));
        }
        same("parse", model::parse, x::parse);
        last = model.pulses() == 0 ? 0 : model.pulse(model.pulses() - 1, 1);
    }

    private void query() {
        int a = time();
        int b = time();
        int from = chance.nextInt(10) == 0 ? a : Math.min(a, b);
        int to = chance.nextInt(10) == 0 ? b : Math.max(a, b);
        int size = model.pulses();
        switch (chance.nextInt(16)) {
            case 0 -> queryPulse(in(0, Math.max(0, size - 1)), in(0, 6));
            case 1 -> {
                int status = in(0, 6);
                same("statuses " + status, () -> model.statuses(status), () -> x.statuses(status));
            }
            case 2 -> {
                int bin = in(-1, 35);
                int level = in(-1, 15);
                same("count " + bin + " " + level, () -> model.count(bin, level),
                    () -> x.count(bin, level));
            }
            case 3 -> same("fullest " + from + " " + to, () -> model.fullest(from, to),
                () -> x.fullest(from, to));
            case 4 -> {
                int half = in(0, 1);
                int what = in(0, 5);
                same("feature " + half + " " + from + " " + to + " " + what,
                    () -> model.feature(half, from, to, what),
                    () -> x.feature(half, from, to, what));
            }
            case 5 -> same("asymmetry " + from + " " + to, () -> model.asymmetry(from, to),
                () -> x.asymmetry(from, to));
            case 6 -> same("pattern " + from + " " + to, () -> model.pattern(from, to),
                () -> x.pattern(from, to));
            case 7 -> {
                int a2 = time();
                int b2 = chance.nextInt(8) == 0 ? a2 : time();
                int from2 = Math.min(a2, b2);
                int to2 = Math.max(a2, b2);
                same("similarity " + from + " " + to + " " + from2 + " " + to2,
                    () -> model.similarity(from, to, from2, to2),
                    () -> x.similarity(from, to, from2, to2));
            }
            default -> queryMore();
        }
    }

    private void queryPulse(int pulse, int what) {
        same("pulse " + pulse + " " + what, () -> model.pulse(pulse, what),
            () -> x.pulse(pulse, what));
    }

    private void queryMore() {
        switch (chance.nextInt(9)) {
            case 0 -> same("bursts", model::bursts, x::bursts);
            case 1 -> {
                int burst = in(0, Math.max(0, model.bursts() - 1));
                int what = in(0, 3);
                same("burst " + burst + " " + what, () -> model.burst(burst, what),
                    () -> x.burst(burst, what));
            }
            case 2 -> {
                int k = chance.nextInt(4) == 0 ? in(0, 2777)
                    : chance.nextInt(2 + last / (360 * model.value(8)));
                int what = in(0, 4);
                same("interval " + k + " " + what, () -> model.interval(k, what),
                    () -> x.interval(k, what));
            }
            case 3 -> {
                boolean growth = chance.nextBoolean();
                same("firstAlarm " + growth, () -> model.firstAlarm(growth),
                    () -> x.firstAlarm(growth));
            }
            case 4 -> {
                int level = chance.nextBoolean() ? chance.nextInt(200) : in(0, 2000);
                int gateLevel = in(1, 2000);
                int gateWidth = in(0, 100);
                int deadTime = chance.nextBoolean() ? chance.nextInt(60) : in(0, 1000);
                int status = in(0, 6);
                same("statusesWith " + level + " " + gateLevel + " " + gateWidth + " " + deadTime
                    + " " + status,
                    () -> model.statusesWith(level, gateLevel, gateWidth, deadTime, status),
                    () -> x.statusesWith(level, gateLevel, gateWidth, deadTime, status));
            }
            case 5 -> {
                int most = chance.nextInt(8) == 0 ? in(0, 250) : chance.nextInt(12);
                same("levelFor " + most, () -> model.levelFor(most), () -> x.levelFor(most));
            }
            case 6 -> {
                int what = in(0, 10);
                same("value " + what, () -> model.value(what), () -> x.value(what));
            }
            case 7 -> same("pulses", model::pulses, x::pulses);
            default -> same("digest", model::digest, x::digest);
        }
    }
}
