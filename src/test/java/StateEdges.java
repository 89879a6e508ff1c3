import java.math.BigInteger;
import java.util.ArrayList;
import java.util.Arrays;
import java.util.List;

/** The edges of the paragraphs Undo and Exceptions, and of promises 26 and 27. */
final class StateEdges {
    private StateEdges() {
    }

    static void all() {
        undoableCalls();
        otherCallsSaveNothing();
        fourStates();
        exceptTheText();
        whatCameInItsPlace();
        fullLogComesBack();
        nothingToUndo();
        undo();
        firstException();
        nothingChanged();
        hash();
        hashOfWindows();
        hashOverflows();
    }

    private static void undoableCalls() {
        Doc.says("Undo", "saves the state from before the call, even if the call changes nothing;");
        Edge.Use[] calls = {x -> x.set(0, 7), x -> x.block(3, 2), x -> x.record(0, 400, 100),
            x -> x.forget(6), DischargeRecorder::unblock, DischargeRecorder::parse,
            x -> x.set(0, 10), x -> x.forget(0), x -> x.forget(5)};
        for (int i = 0; i < calls.length; i++) {
            undone("undoable call " + i, calls[i]);
        }
        DischargeRecorder x = new DischargeRecorder();
        x.unblock();
        Checks.due("unblock of none saves a state", 0, x::undo);
        x.forget(1000000);
        Checks.due("forget of none saves a state", 0, x::undo);
        x.parse();
        Checks.due("parse of no pulses saves a state", 0, x::undo);
        x.set(2, 20);
        Checks.due("set of the same value saves a state", 0, x::undo);
    }

    /** The call is undone by undo(), and only its own: the states before it are still there. */
    private static void undone(String what, Edge.Use call) {
        DischargeRecorder x = fiveSettings();
        DischargeRecorder same = fiveSettings();
        call.on(x);
        Checks.due(what + " is undone", 3, x::undo);
        same.set(0, same.value(0));
        Checks.due(what + ", the other one", 3, same::undo);
        Checks.due(what + " leaves the state as it was", Edge.trace(same), () -> Edge.trace(x));
    }

    private static DischargeRecorder fiveSettings() {
        DischargeRecorder x = Checks.recorder("m5+50;n1+60;m9+70;");
        x.block(1, 2);
        for (int i = 0; i < 5; i++) {
            x.set(i % 2 == 0 ? 0 : 7, 6 + i);
        }
        Checks.append(x, "m1+80;i1+90;");
        return x;
    }

    private static void otherCallsSaveNothing() {
        Doc.says("Undo", "Each successful call of a method whose description says \"undoable\"");
        Edge.Use[] calls = {x -> x.append('m'), DischargeRecorder::parse,
            DischargeRecorder::clearText, x -> x.value(0), DischargeRecorder::pulses,
            x -> x.statuses(0), x -> x.count(-1, -1), x -> x.fullest(0, 9),
            x -> x.feature(0, 0, 9, 0), x -> x.asymmetry(0, 9), x -> x.pattern(0, 9),
            x -> x.similarity(0, 9, 0, 9), DischargeRecorder::bursts, x -> x.interval(0, 0),
            x -> x.firstAlarm(true), x -> x.firstAlarm(false),
            x -> x.statusesWith(0, 1, 0, 0, 0), x -> x.levelFor(0), DischargeRecorder::digest};
        DischargeRecorder x = new DischargeRecorder();
        for (int i = 0; i < calls.length; i++) {
            calls[i].on(x);
            Checks.due("call " + i + " saves nothing", Checks.ISE, x::undo);
        }
        DischargeRecorder y = Edge.at(5);
        y.pulse(0, 5);
        y.burst(0, 3);
        Checks.due("only record saved a state", 0, y::undo);
        Edge.Use[] failing = {z -> z.set(0, 360), z -> z.block(360, 0), z -> z.record(0, -1, 0),
            z -> z.forget(-1), z -> z.set(11, 0)};
        for (Edge.Use call : failing) {
            Checks.due("refused", Checks.IAE, () -> call.on(y));
            Checks.due("a call that fails saves nothing", Checks.ISE, y::undo);
        }
    }

    private static void fourStates() {
        Doc.says("Undo", "at most 4 states are saved, and the oldest is dropped first.");
        for (int number = 1; number <= 12; number++) {
            DischargeRecorder x = new DischargeRecorder();
            for (int i = 1; i <= number; i++) {
                x.set(0, i);
            }
            int saved = Math.min(number, 4);
            for (int i = 1; i <= saved; i++) {
                int left = saved - i;
                int shift = number - i;
                Checks.due("undo " + i + " of " + number, left, x::undo);
                Checks.due("the shift then", shift, () -> x.value(0));
            }
            Checks.due("no more of " + number, Checks.ISE, x::undo);
            Checks.due("the oldest that there was", number - saved, () -> x.value(0));
        }
        DischargeRecorder x = new DischargeRecorder();
        for (int i = 1; i <= 6; i++) {
            x.set(0, i);
        }
        x.undo();
        x.undo();
        x.set(0, 40);
        x.set(0, 50);
        x.set(0, 60);
        int[] due = {50, 40, 4, 3};
        for (int i = 0; i < due.length; i++) {
            Checks.due("undo after undo", 3 - i, x::undo);
            int shift = due[i];
            Checks.due("the shift", shift, () -> x.value(0));
        }
        Checks.due("nothing before it", Checks.ISE, x::undo);
    }

    private static void exceptTheText() {
        Doc.says("Undo", "The saved state contains everything except the pulse text.");
        DischargeRecorder x = new DischargeRecorder();
        Checks.append(x, "m1+5;");
        for (int what = 0; what <= 10; what++) {
            long before = x.digest();
            x.set(what, 7);
            x.undo();
            Checks.due("setting " + what + " comes back", before, x::digest);
        }
        x.block(1, 2);
        x.block(3, 4);
        x.record(0, 5, 50);
        x.record(1, 6, -60);
        long before = x.digest();
        x.unblock();
        x.undo();
        x.forget(1000000);
        x.undo();
        Checks.due("one more saved state was there", 2, x::undo);
        x.record(1, 6, -60);
        x.set(0, 0);
        Checks.due("windows and pulses come back", before, x::digest);
        x.clearText();
        Checks.append(x, "n2-9;i1+1;");
        x.undo();
        Checks.due("the text stays", 2, x::parse);
        Checks.due("and its length", 10, x::clearText);
        x.undo();
        Checks.due("it is not brought back", 0, x::clearText);
    }

    /** Windows and pulses come back even where others have been put in their places. */
    private static void whatCameInItsPlace() {
        Doc.says("Undo", "The saved state contains everything");
        DischargeRecorder x = Checks.recorder("m5+50;n1+60;");
        x.block(350, 10);
        x.block(20, 30);
        long before = x.digest();
        x.unblock();
        x.block(40, 50);
        x.block(70, 60);
        x.block(80, 80);
        for (int i = 0; i < 4; i++) {
            x.undo();
        }
        x.unblock();
        x.undo();
        Checks.due("the first window", 3, () -> x.pulse(0, 5));
        x.forget(1000000);
        x.record(2, 9, 70);
        x.record(0, 10, 80);
        for (int i = 0; i < 3; i++) {
            x.undo();
        }
        for (int i = 0; i < 4; i++) {
            x.set(0, 0);
        }
        Checks.due("windows and pulses as they were", before, x::digest);
        Checks.due("both windows", 2, x::unblock);
    }

    /** The last place of a full log comes back, too. */
    private static void fullLogComesBack() {
        Doc.says("Undo", "The saved state contains everything");
        DischargeRecorder x = Edge.State.FULL.make();
        long before = x.digest();
        Checks.due("the oldest pulse goes", 1, () -> x.forget(10));
        Checks.due("another one is the last", 249, () -> x.record(2, 1000000, 7));
        x.undo();
        x.undo();
        int[] last = {1, 2250, 95};
        for (int what = 0; what < last.length; what++) {
            int asked = what;
            Checks.due("the last pulse, " + what, last[what], () -> x.pulse(249, asked));
        }
        x.set(0, 0);
        x.set(0, 0);
        Checks.due("all of them", before, x::digest);
    }

    private static void nothingToUndo() {
        Doc.says("26", "Throws `IllegalStateException` if there is no saved state");
        Edge.refusedIn(Edge.State.FRESH, "undo of nothing", Checks.ISE, DischargeRecorder::undo);
        DischargeRecorder x = Edge.State.FULL.make();
        for (int i = 3; i >= 0; i--) {
            Checks.due("undo", i, x::undo);
        }
        long before = x.digest();
        Checks.due("all are used up", Checks.ISE, x::undo);
        Checks.due("the state stays", before, x::digest);
        Checks.due("the pulses, too", 150, x::pulses);
    }

    private static void undo() {
        Doc.says("26", "Restores the most recently saved state and removes it from the saved");
        Doc.says("26", "Returns the number of saved states that remain.");
        DischargeRecorder x = Edge.State.RICH.make();
        // The windows, the persistence and the number of pulses, from the newest state back.
        int[][] windows = {{100, 110, 350, 5}, {100, 110}, {100, 110}, {}};
        int[] persistence = {1, 1, 2, 2};
        for (int i = 0; i < 4; i++) {
            int due = 3 - i;
            Checks.due("the persistence before undo " + i, persistence[i], () -> x.value(9));
            Checks.due("the pulses before undo " + i, 7, x::pulses);
            Checks.due("the hash before undo " + i, hashOf(valuesOf(x, 13, 4 - i, windows[i])),
                x::digest);
            Checks.due("states that remain", due, x::undo);
        }
        Checks.due("the shift was set before that", 10, () -> x.value(0));
        Checks.due("the pulses were read after it", 0, x::pulses);
        Checks.due("the windows came after it", 0, x::unblock);
        Checks.due("the persistence, too", 2, () -> x.value(9));
    }

    private static void first(Edge.State state, String what, String exception, Edge.Use call) {
        Edge.refusedIn(state, what, exception, call);
    }

    private static void firstException() {
        Doc.says("Exceptions", "If several exceptions apply, the one that is listed first is");
        Edge.State full = Edge.State.FULL;
        first(full, "block: both", Checks.IAE, x -> x.block(-1, 0));
        first(full, "block: both, last", Checks.IAE, x -> x.block(0, 360));
        first(full, "block: the second", Checks.ISE, x -> x.block(0, 0));
        first(full, "record: both, kind", Checks.IAE, x -> x.record(3, 2250, 0));
        first(full, "record: both, time", Checks.IAE, x -> x.record(0, 1000001, 0));
        first(full, "record: both, time before", Checks.IAE, x -> x.record(0, 2249, 0));
        first(full, "record: both, amplitude", Checks.IAE, x -> x.record(0, 2250, 2001));
        first(full, "record: the second", Checks.ISE, x -> x.record(0, 2250, 0));
        first(full, "append: both", Checks.IAE, x -> x.append(128));
        first(full, "append: both, low", Checks.IAE, x -> x.append(-1));
        first(full, "append: the second", Checks.ISE, x -> x.append(0));
        for (Edge.State state : Edge.State.values()) {
            for (int what : new int[] {-1, 7}) {
                first(state, "pulse: both", Checks.IOOBE, x -> x.pulse(-1, what));
                first(state, "pulse: both, high", Checks.IOOBE, x -> x.pulse(250, what));
                first(state, "burst: both", Checks.IOOBE, x -> x.burst(-1, what));
                first(state, "burst: both, high", Checks.IOOBE, x -> x.burst(250, what));
                first(state, "interval: both", Checks.IOOBE, x -> x.interval(-1, what));
                first(state, "interval: both, high", Checks.IOOBE, x -> x.interval(2778, what));
                first(state, "interval: the second", Checks.IAE, x -> x.interval(0, what));
            }
        }
        for (int what : new int[] {-1, 7}) {
            first(full, "pulse: the second", Checks.IAE, x -> x.pulse(0, what));
            first(full, "burst: the second", Checks.IAE, x -> x.burst(0, what));
        }
        first(Edge.State.FRESH, "pulse: the first", Checks.IOOBE, x -> x.pulse(0, 0));
        first(Edge.State.FRESH, "burst: the first", Checks.IOOBE, x -> x.burst(0, 0));
        first(Edge.State.FRESH, "interval: the first", Checks.IOOBE, x -> x.interval(2778, 0));
    }

    private static void nothingChanged() {
        Doc.says("Exceptions", "A call that throws an exception changes nothing.");
        Edge.Use[] calls = {x -> x.set(-1, 0), x -> x.set(0, 360), x -> x.value(11),
            x -> x.block(0, 360), x -> x.record(3, 0, 0), x -> x.record(0, 1000001, 0),
            x -> x.record(0, 1000000, 2001), x -> x.forget(1000001), x -> x.append(128),
            x -> x.pulse(250, 0), x -> x.pulse(-1, 7), x -> x.statuses(7), x -> x.count(36, 0),
            x -> x.count(0, 16), x -> x.fullest(1, 0), x -> x.feature(2, 0, 0, 0),
            x -> x.asymmetry(1, 0), x -> x.pattern(1, 0), x -> x.similarity(1, 0, 0, 0),
            x -> x.burst(250, 0), x -> x.interval(2778, 0), x -> x.interval(0, 5),
            x -> x.statusesWith(2001, 1, 0, 0, 0), x -> x.levelFor(251)};
        for (Edge.State state : Edge.State.values()) {
            DischargeRecorder x = state.make();
            for (int i = 0; i < calls.length; i++) {
                int call = i;
                Checks.due("call " + i + " throws, " + state, true,
                    () -> Checks.answer(() -> calls[call].on(x)).endsWith("Exception"));
            }
            Checks.due("all of them change nothing, " + state, Edge.trace(state.make()),
                () -> Edge.trace(x));
        }
        DischargeRecorder x = Edge.State.FULL.make();
        Checks.due("block", Checks.ISE, () -> x.block(0, 0));
        Checks.due("record", Checks.ISE, () -> x.record(0, 2250, 0));
        Checks.due("append", Checks.ISE, () -> x.append('m'));
        Checks.due("full things change nothing", Edge.trace(Edge.State.FULL.make()),
            () -> Edge.trace(x));
    }

    /** The hash as it is told, without an overflow, and cut to a long in the end. */
    static long hashOf(List<Long> values) {
        BigInteger h = BigInteger.valueOf(2957);
        for (long value : values) {
            h = h.multiply(BigInteger.valueOf(31)).add(BigInteger.valueOf(value));
        }
        return h.longValue();
    }

    /** The values of the hash, of an object with such a text, saved states and windows. */
    static List<Long> valuesOf(DischargeRecorder x, int length, int saved, int... ends) {
        List<Long> values = new ArrayList<>();
        values.add((long) length);
        for (int what = 0; what <= 10; what++) {
            values.add((long) x.value(what));
        }
        values.add(ends.length / 2L);
        for (int end : ends) {
            values.add((long) end);
        }
        values.add((long) x.pulses());
        for (int pulse = 0; pulse < x.pulses(); pulse++) {
            for (int what = 0; what <= 6; what++) {
                values.add((long) x.pulse(pulse, what));
            }
        }
        values.add((long) x.bursts());
        values.add((long) saved);
        return values;
    }

    private static void hash() {
        Doc.says("27", "Returns a hash of the state.");
        Doc.says("27", "Start with h = 2957 and, for each of the following values v, set h = 31 * h"
            + " + v: the length of the text;");
        Doc.says("27", "value() for 0 to 10;");
        Doc.says("27", "bursts();");
        Doc.says("27", "the number of saved states.");
        List<Long> none = List.of(0L, 0L, 100L, 20L, 200L, 3L, 2L, 10L, 20L, 1L, 2L, 500L, 0L, 0L,
            0L, 0L);
        Checks.due("of a new object", hashOf(none), () -> new DischargeRecorder().digest());
        for (int length : new int[] {1, 149, 150}) {
            DischargeRecorder x = new DischargeRecorder();
            Checks.append(x, "m".repeat(length));
            List<Long> values = new ArrayList<>(none);
            values.set(0, (long) length);
            Checks.due("of a text of " + length, hashOf(values), x::digest);
        }
        for (int number = 1; number <= 6; number++) {
            DischargeRecorder x = new DischargeRecorder();
            for (int i = 0; i < number; i++) {
                x.unblock();
            }
            List<Long> values = new ArrayList<>(none);
            values.set(15, Math.min(4L, number));
            Checks.due("of saved states, " + number, hashOf(values), x::digest);
        }
    }

    private static void hashOfWindows() {
        Doc.says("27", "the number of blocked windows and, for each of them in the order in which"
            + " they were added, its first and its last phase;");
        int[] ends = {350, 10, 0, 0, 359, 359, 20, 19};
        DischargeRecorder x = new DischargeRecorder();
        for (int number = 1; number <= 4; number++) {
            x.block(ends[2 * number - 2], ends[2 * number - 1]);
            long due = hashOf(valuesOf(x, 0, number, Arrays.copyOf(ends, 2 * number)));
            Checks.due("of windows, " + number, due, x::digest);
        }
        x.unblock();
        Checks.due("without windows", hashOf(valuesOf(x, 0, 4)), x::digest);
        x.block(7, 8);
        Checks.due("with a new one", hashOf(valuesOf(x, 0, 4, 7, 8)), x::digest);
    }

    private static void hashOverflows() {
        Doc.says("27", "the number of pulses and, for each of them, the values of pulse() for what"
            + " = 0 to 6;");
        Doc.says("27", "Returns the hash, with the overflow of long arithmetic ignored.");
        DischargeRecorder x = Checks.recorder("m5+50;m1+60;n1+300;i1-70;m9-80;");
        Checks.due("of five pulses", hashOf(valuesOf(x, 0, 4)), x::digest);
        x.set(2, 51);
        Checks.due("of other statuses", hashOf(valuesOf(x, 0, 4)), x::digest);
        DischargeRecorder y = Checks.heavy(200);
        for (int i = 0; i < 50; i++) {
            y.record(0, 25 * i, -2000);
        }
        List<Long> values = new ArrayList<>(List.of(0L, 0L, 1000L, 20L, 200L, 3L, 2L,
            10L, 20L, 1L, 2L, 500L, 0L, 250L));
        for (int i = 0; i < 200; i++) {
            values.addAll(List.of(2L, 0L, i == 0 ? 1L : 0L, 0L, i == 0 ? 200000L : 0L, 6L, -1L));
        }
        for (long i = 0; i < 50; i++) {
            values.addAll(List.of(0L, 25 * i, -2000L, 25 * i % 360, 400000000L, 0L, i));
        }
        values.addAll(List.of(50L, 4L));
        Checks.due("of a full log", hashOf(values), y::digest);
    }
}
