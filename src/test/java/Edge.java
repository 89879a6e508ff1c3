import java.util.ArrayList;
import java.util.List;

/** What the tests of the document's edges share: states to begin with, refused calls, ranges. */
final class Edge {
    /** A call on an object. */
    interface Use {
        Object on(DischargeRecorder x);
    }

    /** A call on an object, with an argument that is tried. */
    interface UseOf {
        Object on(DischargeRecorder x, int value);
    }

    /** The states in which a call must be refused: nothing there, something of all, all full. */
    enum State {
        FRESH, RICH, FULL;

        DischargeRecorder make() {
            return this == FRESH ? new DischargeRecorder() : this == RICH ? rich() : full();
        }
    }

    private Edge() {
    }

    private static DischargeRecorder rich() {
        DischargeRecorder x = new DischargeRecorder();
        x.set(0, 10);
        Checks.append(x, "i0-40;m5+60;m10+90;n30+300;m2+70;m200+80;m140-95;");
        x.parse();
        x.block(100, 110);
        x.set(9, 1);
        x.block(350, 5);
        Checks.write(x, "m1+55;n2-300;");
        return x;
    }

    /** 250 pulses, 4 windows, 150 bytes and 4 saved states, all different. */
    private static DischargeRecorder full() {
        DischargeRecorder x = new DischargeRecorder();
        x.set(3, 90);
        for (int i = 0; i < 4; i++) {
            x.block(100 * i % 359, 100 * i % 359 + 5);
        }
        Checks.append(x, "m9+50;m9-60;i9+30;m9+70;n9+95;".repeat(5));
        for (int i = 0; i < 10; i++) {
            x.parse();
        }
        return x;
    }

    /** All that can be seen of an object from now on; it is worn out by it. */
    static List<String> trace(DischargeRecorder x) {
        List<String> seen = new ArrayList<>();
        Use[] uses = {DischargeRecorder::digest, DischargeRecorder::pulses, y -> y.count(-1, -1),
            y -> y.levelFor(1), y -> y.firstAlarm(true), y -> y.interval(0, 1), y -> y.burst(0, 3),
            y -> y.similarity(0, 300, 0, 600), DischargeRecorder::undo, DischargeRecorder::digest,
            DischargeRecorder::undo, DischargeRecorder::digest, DischargeRecorder::undo,
            DischargeRecorder::digest, DischargeRecorder::undo, DischargeRecorder::digest,
            DischargeRecorder::undo, DischargeRecorder::unblock, y -> y.forget(1000000),
            DischargeRecorder::parse, DischargeRecorder::digest, DischargeRecorder::clearText};
        for (Use use : uses) {
            seen.add(Checks.answer(() -> use.on(x)));
        }
        return seen;
    }

    /** The call is refused, and leaves the object as one on which it was not made. */
    static void refusedIn(State state, String what, String exception, Use call) {
        DischargeRecorder x = state.make();
        Checks.due(what + ", " + state, exception, () -> call.on(x));
        Checks.due(what + " changes nothing, " + state, trace(state.make()), () -> trace(x));
    }

    static void refused(String what, String exception, Use call) {
        for (State state : State.values()) {
            refusedIn(state, what, exception, call);
        }
    }

    /** The call answers something and throws nothing. */
    static void taken(State state, String what, Use call) {
        DischargeRecorder x = state.make();
        Checks.due(what + " is taken, " + state, false,
            () -> Checks.answer(() -> call.on(x)).endsWith("Exception"));
    }

    /** From low to high an argument is taken; beside them, and far away, it is refused. */
    static void range(State state, String what, int low, int high, String exception, UseOf call) {
        for (int value : new int[] {low, Math.min(low + 1, high), Math.max(low, high - 1), high}) {
            taken(state, what + " " + value, x -> call.on(x, value));
        }
        for (int value : new int[] {low - 1, high + 1, Integer.MIN_VALUE, Integer.MAX_VALUE}) {
            refused(what + " " + value, exception, x -> call.on(x, value));
        }
    }

    /** An argument that is refused with an IllegalArgumentException out of its range. */
    static void range(String what, int low, int high, UseOf call) {
        range(State.FRESH, what, low, high, Checks.IAE, call);
    }

    /** A setting has its first value and its range, and answers the one that it had. */
    static void setting(int what, int low, int high, int initial) {
        Checks.due("initially " + what, initial, () -> new DischargeRecorder().value(what));
        range("set " + what + " to", low, high, (x, value) -> x.set(what, value));
        for (int value : new int[] {low, high}) {
            DischargeRecorder x = new DischargeRecorder();
            Checks.due("set " + what + " answers the first value", initial,
                () -> x.set(what, value));
            Checks.due("value " + what, value, () -> x.value(what));
        }
    }

    /** The status of a pulse of a log that is told as a text, with settings in pairs. */
    static int status(String text, int pulse, int... settings) {
        return with(text, settings).pulse(pulse, 5);
    }

    static DischargeRecorder with(String text, int... settings) {
        DischargeRecorder x = Checks.recorder(text);
        for (int i = 0; i + 1 < settings.length; i += 2) {
            x.set(settings[i], settings[i + 1]);
        }
        return x;
    }

    /** Measured pulses of 100 at these times. */
    static DischargeRecorder at(int... times) {
        DischargeRecorder x = new DischargeRecorder();
        for (int time : times) {
            x.record(0, time, 100);
        }
        return x;
    }

    /** Measured pulses of 100, a cycle each, so many in each bin. */
    static DischargeRecorder bins(int... numbers) {
        DischargeRecorder x = new DischargeRecorder();
        for (int bin = 0; bin < numbers.length; bin++) {
            for (int i = 0; i < numbers[bin]; i++) {
                x.record(0, 360 * x.pulses() + 10 * bin + i % 10, 100);
            }
        }
        return x;
    }
}
