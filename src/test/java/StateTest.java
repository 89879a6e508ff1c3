import java.util.Arrays;

/** Promises 26 and 27: undo, digest. */
final class StateTest {
    public static void main(String[] args) {
        undoRefuses();
        undoOfEach();
        fourStates();
        undoable();
        notUndoable();
        digest();
        digestOfEach();
        Checks.end();
    }

    private static void undoRefuses() {
        DischargeRecorder x = new DischargeRecorder();
        Checks.refused(x, "26: nothing to undo", Checks.ISE, x::undo);
        x.unblock();
        Checks.due("26: one state", 0, x::undo);
        Checks.refused(x, "26: no more", Checks.ISE, x::undo);
    }

    /** Settings, windows and pulses come back; the text stays. */
    private static void undoOfEach() {
        DischargeRecorder x = new DischargeRecorder();
        x.record(0, 5, 50);
        x.block(1, 2);
        x.set(0, 7);
        Checks.append(x, "m1+60;");
        x.parse();
        Checks.append(x, "n1");
        Checks.due("26: undo of parse", 3, x::undo);
        Checks.due("11: one pulse", 1, x::pulses);
        Checks.due("26: undo of set", 2, x::undo);
        Checks.due("3: the shift", 0, () -> x.value(0));
        Checks.due("12: the pulse is still there", 50, () -> x.pulse(0, 2));
        Checks.due("26: undo of block", 1, x::undo);
        Checks.due("4: no window", 1, () -> x.block(3, 3));
        Checks.due("26: undo of that", 1, x::undo);
        Checks.due("26: undo of record", 0, x::undo);
        Checks.due("11: no pulse", 0, x::pulses);
        Checks.due("9: the text has stayed", 8, x::clearText);
    }

    private static void fourStates() {
        DischargeRecorder x = new DischargeRecorder();
        for (int i = 1; i <= 7; i++) {
            x.set(0, i);
        }
        for (int i = 6; i >= 3; i--) {
            Checks.due("26: undo to " + i, i - 3, x::undo);
            int due = i;
            Checks.due("3: the shift is " + i, due, () -> x.value(0));
        }
        Checks.due("26: the oldest ones are dropped", Checks.ISE, x::undo);
        x.set(0, 100);
        x.set(0, 101);
        Checks.due("26: saved anew", 1, x::undo);
        Checks.due("3: the shift is 100", 100, () -> x.value(0));
        x.set(0, 102);
        x.set(0, 103);
        x.set(0, 104);
        Checks.due("26: a full row again", 3, x::undo);
        Checks.due("3: the shift is 103", 103, () -> x.value(0));
        Checks.due("26: and on", 2, x::undo);
        Checks.due("26: and on", 1, x::undo);
        Checks.due("26: and on", 0, x::undo);
        Checks.due("3: the shift is 3", 3, () -> x.value(0));
    }

    private static void undoable() {
        DischargeRecorder x = new DischargeRecorder();
        Checks.Call[] calls = {() -> x.set(0, 0), () -> x.block(0, 0), x::unblock,
            () -> x.record(0, 0, 0), () -> x.forget(0), x::parse};
        for (int i = 0; i < calls.length; i++) {
            long before = x.digest();
            calls[i].run();
            Checks.due("26: undoable call " + i, 0, x::undo);
            Checks.due("26: the state is as before call " + i, before, x::digest);
        }
    }

    private static void notUndoable() {
        DischargeRecorder x = new DischargeRecorder();
        Checks.Call[] calls = {() -> x.append('x'), x::parse, x::clearText, () -> x.value(0),
            x::pulses, () -> x.statuses(0), () -> x.count(0, 0), () -> x.fullest(0, 0),
            () -> x.feature(0, 0, 0, 0), () -> x.asymmetry(0, 0), () -> x.pattern(0, 0),
            () -> x.similarity(0, 0, 0, 0), x::bursts, () -> x.interval(0, 0),
            () -> x.firstAlarm(true), () -> x.statusesWith(0, 1, 0, 0, 0), () -> x.levelFor(0),
            x::digest};
        for (int i = 0; i < calls.length; i++) {
            calls[i].run();
            Checks.due("26: call " + i + " saves nothing", Checks.ISE, x::undo);
        }
    }

    private static void digest() {
        DischargeRecorder x = new DischargeRecorder();
        x.record(2, 3, -50);
        x.record(0, 40, 100);
        x.block(350, 5);
        x.block(9, 8);
        x.unblock();
        x.block(7, 6);
        x.block(100, 200);
        Checks.append(x, "abc");
        x.set(0, 30);
        long[] values = {3, 30, 100, 20, 200, 3, 2, 10, 20, 1, 2, 500, 2, 7, 6, 100, 200, 2,
            2, 3, -50, 33, 100, 6, -1, 0, 40, 100, 70, 200, 3, -1, 0, 4};
        long h = 2957;
        for (long value : values) {
            h = h * 31 + value;
        }
        Checks.due("27: digest", h, x::digest);
        x.unblock();
        x.clearText();
        long[] without = {0, 30, 100, 20, 200, 3, 2, 10, 20, 1, 2, 500, 0, 2,
            2, 3, -50, 33, 100, 6, -1, 0, 40, 100, 70, 200, 0, 0, 1, 4};
        h = 2957;
        for (long value : without) {
            h = h * 31 + value;
        }
        Checks.due("27: digest without windows", h, x::digest);
    }

    /** After each call, the digest is the hash of what the object tells then. */
    private static void digestOfEach() {
        DischargeRecorder x = new DischargeRecorder();
        Checks.Call[] calls = {() -> x.append('m'), () -> x.set(5, 3), () -> x.block(1, 2),
            () -> x.block(2, 1), () -> x.record(0, 1, 50), () -> x.record(1, 1, 50), x::undo,
            () -> x.forget(1000), x::unblock, x::clearText};
        int[] lengths = {1, 1, 1, 1, 1, 1, 1, 1, 1, 0};
        int[] saved = {0, 1, 2, 3, 4, 4, 3, 4, 4, 4};
        int[] ends = {0, 0, 2, 4, 4, 4, 4, 4, 0, 0};
        for (int i = 0; i < calls.length; i++) {
            calls[i].run();
            int[] windows = Arrays.copyOf(new int[] {1, 2, 2, 1}, ends[i]);
            long due = StateEdges.hashOf(StateEdges.valuesOf(x, lengths[i], saved[i], windows));
            Checks.due("27: after call " + i, due, x::digest);
            Checks.due("27: asked again after call " + i, due, x::digest);
        }
    }
}
