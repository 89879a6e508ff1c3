/** Promises 6, 7 and 11 to 13: record, forget, pulses, pulse, statuses. */
final class PulsesTest {
    public static void main(String[] args) {
        record();
        recordRefuses();
        fullLog();
        forget();
        facts();
        charges();
        pulseRefuses();
        quietAndGated();
        gateWidth();
        blockedAndDead();
        statuses();
        Checks.end();
    }

    private static void record() {
        DischargeRecorder x = new DischargeRecorder();
        Checks.due("6: the first pulse", 0, () -> x.record(0, 0, -2000));
        Checks.due("6: the same time again", 1, () -> x.record(1, 0, 2000));
        Checks.due("6: the last time", 2, () -> x.record(2, 1000000, 0));
        Checks.due("6: the last time again", 3, () -> x.record(0, 1000000, 5));
        Checks.due("11: pulses", 4, x::pulses);
        Checks.due("6: record is undoable", 3, x::undo);
        Checks.due("11: pulses after undo", 3, x::pulses);
    }

    private static void recordRefuses() {
        DischargeRecorder x = new DischargeRecorder();
        x.record(0, 50, 10);
        int[][] bad = {{-1, 50, 0}, {3, 50, 0}, {0, -1, 0}, {0, 1000001, 0}, {0, 49, 0},
            {0, 50, 2001}, {0, 50, -2001}, {Integer.MAX_VALUE, 50, 0},
            {0, Integer.MIN_VALUE, 0}, {0, 50, Integer.MIN_VALUE}};
        for (int[] row : bad) {
            Checks.refused(x, "6: record " + row[0] + " " + row[1] + " " + row[2], Checks.IAE,
                () -> x.record(row[0], row[1], row[2]));
        }
        Checks.due("6: one pulse", 1, x::pulses);
    }

    private static void fullLog() {
        DischargeRecorder x = new DischargeRecorder();
        for (int i = 0; i < 250; i++) {
            int time = i;
            Checks.due("6: pulse " + i, i, () -> x.record(0, time, 100));
        }
        Checks.due("11: a full log", 250, x::pulses);
        Checks.due("12: the last pulse", 249, () -> x.pulse(249, 1));
        Checks.due("12: no pulse behind it", Checks.IOOBE, () -> x.pulse(250, 1));
        Checks.refused(x, "6: a pulse too many", Checks.ISE, () -> x.record(0, 249, 100));
        Checks.refused(x, "6: one too many, out of range", Checks.IAE,
            () -> x.record(0, 248, 100));
        Checks.due("7: room is made", 1, () -> x.forget(1));
        Checks.due("6: the room is used", 249, () -> x.record(0, 300, 100));
    }

    private static void forget() {
        DischargeRecorder x = Checks.recorder("m10+50;n0+60;i5-70;m5+80;m0-90;");
        Checks.due("7: nothing before 10", 0, () -> x.forget(10));
        Checks.due("11: five pulses", 5, x::pulses);
        Checks.due("7: two before 11", 2, () -> x.forget(11));
        Checks.due("11: three pulses", 3, x::pulses);
        Checks.pulsesAre(x, "7: those that stay", new int[] {2, 15, -70}, new int[] {0, 20, 80},
            new int[] {0, 20, -90});
        Checks.due("7: one before 20", 1, () -> x.forget(20));
        Checks.due("7: without the injected pulse", 80, () -> x.pulse(0, 4));
        Checks.due("7: all", 2, () -> x.forget(1000000));
        Checks.due("6: the time starts anew", 0, () -> x.record(0, 3, 50));
        Checks.due("7: of an empty range", 0, () -> x.forget(0));
        Checks.refused(x, "7: forget -1", Checks.IAE, () -> x.forget(-1));
        Checks.refused(x, "7: forget 1000001", Checks.IAE, () -> x.forget(1000001));
        Checks.due("7: forget is undoable even if nothing goes", 3, x::undo);
        x.undo();
        Checks.due("11: after undo", 0, x::pulses);
        Checks.due("7: forget undone", 1, x::undo);
        Checks.due("11: after undo", 2, x::pulses);
        DischargeRecorder y = new DischargeRecorder();
        y.record(0, 1000000, 50);
        Checks.due("7: the last tick stays", 0, () -> y.forget(1000000));
    }

    private static void facts() {
        DischargeRecorder x = Checks.recorder("m10+50;n400-60;i0-0;m1-0;");
        Checks.pulsesAre(x, "12", new int[] {0, 10, 50, 10, 50, 0, 0},
            new int[] {1, 410, -60, 50, 60, 5, -1}, new int[] {2, 410, 0, 50, 0, 6, -1},
            new int[] {0, 411, 0, 51, 0, 1, -1});
        x.set(0, 350);
        Checks.due("12: the phase comes round", 0, () -> x.pulse(0, 3));
        x.set(0, 349);
        Checks.due("12: the highest phase", 359, () -> x.pulse(0, 3));
    }

    private static void charges() {
        DischargeRecorder x = Checks.recorder("m10+50;n1-333;");
        Checks.due("12: without injected pulses", 50, () -> x.pulse(0, 4));
        x.record(2, 20, 0);
        Checks.due("12: the sum is 0", 50, () -> x.pulse(0, 4));
        x.record(2, 20, -30);
        Checks.due("12: 50 * 100 * 2 / 30, rounded down", 333, () -> x.pulse(0, 4));
        Checks.due("12: of an antenna pulse", 2220, () -> x.pulse(1, 4));
        Checks.due("12: of an injected pulse", 200, () -> x.pulse(3, 4));
        x.record(2, 30, 40);
        x.set(1, 7);
        Checks.due("12: 50 * 7 * 3 / 70", 15, () -> x.pulse(0, 4));
        DischargeRecorder y = Checks.heavy(100);
        y.record(0, 0, 2000);
        Checks.due("12: a great charge", 200000000, () -> y.pulse(100, 4));
    }

    private static void pulseRefuses() {
        DischargeRecorder x = new DischargeRecorder();
        Checks.refused(x, "12: of an empty log", Checks.IOOBE, () -> x.pulse(0, 0));
        x.record(0, 0, 50);
        Checks.refused(x, "12: pulse -1", Checks.IOOBE, () -> x.pulse(-1, 0));
        Checks.refused(x, "12: pulse 1", Checks.IOOBE, () -> x.pulse(1, 0));
        Checks.refused(x, "12: pulse 1, what 7", Checks.IOOBE, () -> x.pulse(1, 7));
        Checks.refused(x, "12: what 7", Checks.IAE, () -> x.pulse(0, 7));
        Checks.refused(x, "12: what -1", Checks.IAE, () -> x.pulse(0, -1));
    }

    private static int status(String text, int pulse, int... settings) {
        DischargeRecorder x = Checks.recorder(text);
        for (int i = 0; i + 1 < settings.length; i += 2) {
            x.set(settings[i], settings[i + 1]);
        }
        return x.pulse(pulse, 5);
    }

    private static void quietAndGated() {
        Checks.due("12: below the level", 1, () -> status("m9-19;", 0));
        Checks.due("12: of the level", 0, () -> status("m9-20;", 0));
        Checks.due("12: level 0", 0, () -> status("m9+0;", 0, 2, 0));
        Checks.due("12: level 2000", 0, () -> status("m9-2000;", 0, 2, 2000));
        Checks.due("12: quiet comes before gated", 1, () -> status("n9+300;m0+19;", 1));
        Checks.due("12: gated", 2, () -> status("n9+200;m0+20;", 1));
        Checks.due("12: gated by a negative amplitude", 2, () -> status("n9-200;m0+20;", 1));
        Checks.due("12: below the gate level", 0, () -> status("n9+199;m0+20;", 1));
        Checks.due("12: only an antenna pulse gates", 0, () -> status("i9+500;m0+20;", 1));
        Checks.due("12: a measured pulse does not gate", 0, () -> status("m5+500;m3+20;", 1));
        Checks.due("12: by the antenna pulse behind it", 2, () -> status("m9+50;n0+200;", 0));
    }

    private static void gateWidth() {
        Checks.due("12: 3 ticks behind", 2, () -> status("n9+200;m3+50;", 1));
        Checks.due("12: 4 ticks behind", 0, () -> status("n9+200;m4+50;", 1));
        Checks.due("12: 3 ticks before", 2, () -> status("m9+50;n3+200;", 0));
        Checks.due("12: 4 ticks before", 0, () -> status("m9+50;n4+200;", 0));
        Checks.due("12: width 0", 2, () -> status("m9+50;n0+200;", 0, 4, 0));
        Checks.due("12: width 0, a tick off", 0, () -> status("m9+50;n1+200;", 0, 4, 0));
        Checks.due("12: width 100", 2, () -> status("m9+50;n100+200;", 0, 4, 100));
        Checks.due("12: width 100, 101 off", 0, () -> status("m9+50;n101+200;", 0, 4, 100));
        Checks.due("12: at tick 0 without an antenna pulse", 0, () -> status("m0+50;", 0, 4, 100));
        Checks.due("12: a weak antenna pulse between", 2, () -> status("n9+200;n2+9;m1+50;", 2));
        Checks.due("12: a weak one between, the other way", 2,
            () -> status("m9+50;n1+9;n2+200;", 0));
        DischargeRecorder x = Checks.recorder("n9+200;m3+50;");
        x.forget(10);
        Checks.due("12: an antenna pulse that is gone", 0, () -> x.pulse(0, 5));
    }

    private static void blockedAndDead() {
        Checks.due("12: dead", 4, () -> status("m9+50;m1+50;", 1));
        Checks.due("12: dead at the same time", 4, () -> status("m9+50;m0+50;", 1));
        Checks.due("12: no longer dead", 0, () -> status("m9+50;m2+50;", 1));
        Checks.due("12: dead time 0", 0, () -> status("m9+50;m0+50;", 1, 5, 0));
        Checks.due("12: a quiet pulse makes no dead time", 0, () -> status("m9+5;m1+50;", 1));
        Checks.due("12: a dead pulse makes no dead time", 0,
            () -> status("m9+50;m1+50;m1+50;", 2));
        Checks.due("12: quiet comes before dead", 1, () -> status("m9+50;m1+5;", 1));
        Checks.due("12: dead after a pulse between", 4, () -> status("m9+50;n0+9;m1+50;", 2));
        Checks.due("12: the first pulse is not dead", 0, () -> status("m0+50;", 0, 5, 1000));
        Checks.due("12: dead time 1000", 4, () -> status("m0+50;m999+50;", 1, 5, 1000));
        Checks.due("12: after 1000", 0, () -> status("m0+50;m1000+50;", 1, 5, 1000));
        DischargeRecorder x = Checks.recorder("m9+50;m1+50;n0+200;m4+50;m1+50;m1+50;");
        x.block(14, 15);
        int[] rows = {2, 2, 5, 3, 3, 0};
        for (int i = 0; i < rows.length; i++) {
            int pulse = i;
            Checks.due("12: status of pulse " + i, rows[i], () -> x.pulse(pulse, 5));
        }
        x.set(4, 5);
        Checks.due("12: gated comes before blocked", 2, () -> x.pulse(3, 5));
        x.unblock();
        x.set(4, 0);
        x.block(10, 10);
        Checks.due("12: gated comes before blocked and dead", 2, () -> x.pulse(1, 5));
        x.set(3, 2000);
        Checks.due("12: blocked comes before dead", 3, () -> x.pulse(1, 5));
    }

    private static void statuses() {
        DischargeRecorder x = Checks.recorder("m9+50;m1+50;m4+9;n9+300;n9+9;m8+50;i9+0;i9+0;i9+0;");
        x.block(40, 40);
        int[] rows = {1, 1, 0, 1, 1, 2, 3};
        for (int status = 0; status <= 6; status++) {
            int asked = status;
            Checks.due("13: statuses " + status, rows[status], () -> x.statuses(asked));
        }
        x.set(4, 100);
        Checks.due("13: three are gated", 3, () -> x.statuses(2));
        Checks.refused(x, "13: status -1", Checks.IAE, () -> x.statuses(-1));
        Checks.refused(x, "13: status 7", Checks.IAE, () -> x.statuses(7));
        Checks.due("13: of an empty log", 0, () -> new DischargeRecorder().statuses(0));
    }
}
