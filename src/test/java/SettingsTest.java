/** Promises 1 to 5: a new object, set, value, block, unblock. */
final class SettingsTest {
    private static final int[] LOW = {0, 1, 0, 1, 0, 0, 1, 0, 1, 1, 1};
    private static final int[] HIGH =
        {359, 1000, 2000, 2000, 100, 1000, 1000, 1000, 1000, 10, 100000};
    private static final int[] FIRST = {0, 100, 20, 200, 3, 2, 10, 20, 1, 2, 500};

    public static void main(String[] args) {
        newObject();
        setAndValue();
        setRefuses();
        settingsAtWork();
        block();
        blockRefuses();
        unblock();
        Checks.end();
    }

    private static void newObject() {
        DischargeRecorder x = new DischargeRecorder();
        Checks.due("1: pulses of a new object", 0, x::pulses);
        for (int what = 0; what <= 10; what++) {
            int asked = what;
            Checks.due("1: first value " + what, FIRST[what], () -> x.value(asked));
        }
        Checks.due("1: windows of a new object", 0, x::unblock);
        Checks.due("1: text of a new object", 0, x::clearText);
        DischargeRecorder y = new DischargeRecorder();
        Checks.due("1: saved states of a new object", Checks.ISE, y::undo);
        Checks.due("1: digest of a new object", newDigest(), y::digest);
        y.set(0, 7);
        Checks.due("1: objects share nothing", 0, () -> new DischargeRecorder().value(0));
    }

    private static long newDigest() {
        long h = 2957L * 31;
        for (int value : FIRST) {
            h = h * 31 + value;
        }
        return h * 31 * 31 * 31 * 31;
    }

    private static void setAndValue() {
        DischargeRecorder x = new DischargeRecorder();
        for (int what = 0; what <= 10; what++) {
            int asked = what;
            Checks.due("2: set low " + what, FIRST[what], () -> x.set(asked, LOW[asked]));
            Checks.due("3: low value " + what, LOW[what], () -> x.value(asked));
            Checks.due("2: set high " + what, LOW[what], () -> x.set(asked, HIGH[asked]));
            Checks.due("3: high value " + what, HIGH[what], () -> x.value(asked));
        }
        for (int what = 0; what <= 10; what++) {
            int asked = what;
            Checks.due("2: other values stay " + what, HIGH[what], () -> x.value(asked));
        }
        Checks.due("2: set is undoable", 3, x::undo);
        Checks.due("2: undone", LOW[10], () -> x.value(10));
    }

    private static void setRefuses() {
        DischargeRecorder x = new DischargeRecorder();
        for (int what = 0; what <= 10; what++) {
            int asked = what;
            Checks.refused(x, "2: too low " + what, Checks.IAE, () -> x.set(asked, LOW[asked] - 1));
            Checks.refused(x, "2: too high " + what, Checks.IAE,
                () -> x.set(asked, HIGH[asked] + 1));
        }
        for (int what : new int[] {-1, 11, Integer.MIN_VALUE, Integer.MAX_VALUE}) {
            Checks.refused(x, "2: set " + what, Checks.IAE, () -> x.set(what, 1));
            Checks.refused(x, "3: value " + what, Checks.IAE, () -> x.value(what));
        }
        Checks.due("2: nothing was saved", Checks.ISE, x::undo);
    }

    /** Each setting changes what it is for. */
    private static void settingsAtWork() {
        DischargeRecorder x = Checks.recorder("i0+50;m100+60;m105+60;n1+150;m1+60;m20+19;m10+60;");
        Checks.due("2: the shift is 0", 100, () -> x.pulse(1, 3));
        x.set(0, 359);
        Checks.due("2: the shift turns the phases", 99, () -> x.pulse(1, 3));
        Checks.due("2: the charge is 100", 120, () -> x.pulse(1, 4));
        x.set(1, 25);
        Checks.due("2: the injected charge weighs", 30, () -> x.pulse(1, 4));
        Checks.due("2: the level is 20", 1, () -> x.pulse(5, 5));
        x.set(2, 19);
        Checks.due("2: a pulse of the level is not quiet", 0, () -> x.pulse(5, 5));
        Checks.due("2: the gate level is 200", 0, () -> x.pulse(4, 5));
        x.set(3, 150);
        Checks.due("2: a pulse of the gate level gates", 2, () -> x.pulse(4, 5));
        x.set(4, 0);
        Checks.due("2: the gate width is none", 0, () -> x.pulse(4, 5));
        x.set(5, 3);
        Checks.due("2: the dead time is 3", 4, () -> x.pulse(4, 5));
        x.set(5, 2);
        Checks.due("2: the dead time is 2", 0, () -> x.pulse(4, 5));
        Checks.due("2: the step is 10", 4, () -> x.count(-1, 3));
        x.set(6, 31);
        Checks.due("2: the step is 31", 0, () -> x.count(-1, 1));
        Checks.due("2: the burst gap is 20", 2, x::bursts);
        x.set(7, 19);
        Checks.due("2: the burst gap is 19", 3, x::bursts);
        Checks.due("2: an interval of one cycle", 5, () -> x.interval(0, 0));
        Checks.due("2: persistence and limit", -1, () -> x.firstAlarm(false));
        x.set(9, 1);
        x.set(10, 30);
        Checks.due("2: persistence and limit", 0, () -> x.firstAlarm(false));
    }

    private static int statusAt(int time, int... windows) {
        DischargeRecorder x = new DischargeRecorder();
        for (int i = 0; i + 1 < windows.length; i += 2) {
            x.block(windows[i], windows[i + 1]);
        }
        x.record(0, time, 100);
        return x.pulse(0, 5);
    }

    private static void block() {
        DischargeRecorder x = new DischargeRecorder();
        Checks.due("4: first window", 1, () -> x.block(0, 0));
        Checks.due("4: second window", 2, () -> x.block(359, 359));
        Checks.due("4: third window", 3, () -> x.block(0, 359));
        Checks.due("4: fourth window", 4, () -> x.block(0, 0));
        Checks.due("4: block is undoable", 3, x::undo);
        Checks.due("4: three windows stay", 3, x::unblock);
        int[][] rows = {{9, 0}, {10, 3}, {15, 3}, {20, 3}, {21, 0}, {369, 0}, {370, 3}, {380, 3},
            {381, 0}};
        for (int[] row : rows) {
            Checks.due("4: window 10 to 20 at " + row[0], row[1], () -> statusAt(row[0], 10, 20));
        }
        int[][] over = {{349, 0}, {350, 3}, {359, 3}, {360, 3}, {0, 3}, {10, 3}, {11, 0}, {371, 0}};
        for (int[] row : over) {
            Checks.due("4: window 350 to 10 at " + row[0], row[1],
                () -> statusAt(row[0], 350, 10));
        }
        Checks.due("4: a window of one phase", 3, () -> statusAt(7, 7, 7));
        Checks.due("4: beside a window of one phase", 0, () -> statusAt(8, 7, 7));
        Checks.due("4: all but one phase, over 0", 0, () -> statusAt(8, 9, 7));
        Checks.due("4: the last window counts too", 3, () -> statusAt(8, 1, 1, 2, 2, 3, 3, 8, 8));
        DischargeRecorder y = new DischargeRecorder();
        y.block(10, 20);
        y.record(0, 10, 100);
        y.set(0, 11);
        Checks.due("4: a window is one of phases, not of ticks", 0, () -> y.pulse(0, 5));
    }

    private static void blockRefuses() {
        DischargeRecorder x = new DischargeRecorder();
        int[][] bad = {{-1, 0}, {360, 0}, {0, -1}, {0, 360}, {Integer.MAX_VALUE, 0},
            {0, Integer.MIN_VALUE}};
        for (int[] row : bad) {
            Checks.refused(x, "4: block " + row[0] + " " + row[1], Checks.IAE,
                () -> x.block(row[0], row[1]));
        }
        for (int i = 0; i < 4; i++) {
            x.block(i, i);
        }
        Checks.refused(x, "4: a fifth window", Checks.ISE, () -> x.block(4, 4));
        Checks.refused(x, "4: a fifth window, out of range", Checks.IAE, () -> x.block(360, 4));
    }

    private static void unblock() {
        DischargeRecorder x = new DischargeRecorder();
        x.record(0, 15, 100);
        x.block(10, 20);
        x.block(30, 40);
        Checks.due("5: unblock", 2, x::unblock);
        Checks.due("5: no window is left", 0, () -> x.pulse(0, 5));
        Checks.due("5: unblock of none", 0, x::unblock);
        Checks.due("5: it is undoable even if it changes nothing", 3, x::undo);
        Checks.due("5: undo of it", 2, x::undo);
        Checks.due("5: the windows are back", 3, () -> x.pulse(0, 5));
        Checks.due("5: both of them", 2, x::unblock);
        Checks.due("5: room for new ones", 1, () -> x.block(1, 1));
    }
}
