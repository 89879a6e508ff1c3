/** The edges of the paragraphs Pulses and Calibration, and of promises 1, 6, 7, 11, 12 and 13. */
final class PulseEdges {
    // A pulse of each status, if the phase 83 is blocked, and two accepted ones.
    private static final String ONE_OF_EACH =
        "m2+50;m1+60;m10-19;n12+200;m3-70;i5+40;m0-80;m50+90;";

    private PulseEdges() {
    }

    static void all() {
        mostPulses();
        timesOfPulses();
        amplitudesOfPulses();
        kindsOfPulses();
        cycle();
        phase();
        shift();
        sumOfInjected();
        chargeRoundedDown();
        injectedCharge();
        nothingInjected();
        newObject();
        record();
        recordRefuses();
        forget();
        forgetRenumbers();
        forgetRange();
        pulses();
        pulseFacts();
        pulseRefuses();
        statuses();
        statusesRange();
    }

    private static void mostPulses() {
        Doc.says("Pulses", "at most 250 pulses, numbered from 0 in the order in which they are");
        DischargeRecorder x = new DischargeRecorder();
        for (int i = 0; i < 250; i++) {
            int pulse = i;
            Checks.due("pulse " + i, i, () -> x.record(pulse % 3, 7, pulse - 125));
        }
        for (int i = 0; i < 250; i++) {
            int pulse = i;
            Checks.due("amplitude of " + i, i - 125, () -> x.pulse(pulse, 2));
        }
        Checks.due("one more", Checks.ISE, () -> x.record(0, 7, 100));
        Checks.due("no pulse 250", Checks.IOOBE, () -> x.pulse(250, 2));
    }

    private static void timesOfPulses() {
        Doc.says("Pulses", "a tick from 0 to 1000000, not before the pulse recorded before it");
        Edge.range("record at", 0, 1000000, (x, time) -> x.record(0, time, 100));
        for (int last : new int[] {1, 500, 1000000}) {
            for (int kind = 0; kind < 3; kind++) {
                DischargeRecorder x = new DischargeRecorder();
                int same = kind;
                x.record(kind, last, 0);
                Checks.due("a tick before " + last, Checks.IAE, () -> x.record(same, last - 1, 0));
                Checks.due("at 0 after " + last, Checks.IAE, () -> x.record(0, 0, 0));
                Checks.due("at " + last + " again", 1, () -> x.record(same, last, 0));
                Checks.due("behind " + last, last < 1000000 ? 2 : Checks.IAE,
                    () -> x.record(same, last + 1, 0));
            }
        }
    }

    private static void amplitudesOfPulses() {
        Doc.says("Pulses", "an amplitude (-2000 to 2000)");
        Edge.range("record of", -2000, 2000, (x, amplitude) -> x.record(0, 0, amplitude));
        DischargeRecorder x = new DischargeRecorder();
        int[] amplitudes = {-2000, -1999, -1, 0, 1, 1999, 2000};
        for (int i = 0; i < amplitudes.length; i++) {
            int pulse = i;
            x.record(i % 3, 0, amplitudes[i]);
            Checks.due("the amplitude " + i, amplitudes[i], () -> x.pulse(pulse, 2));
        }
    }

    private static void kindsOfPulses() {
        Doc.says("Pulses", "a kind: 0 measured, 1 antenna, 2 injected");
        Edge.range("record of kind", 0, 2, (x, kind) -> x.record(kind, 0, 100));
        DischargeRecorder x = Checks.recorder("m0+50;n0+50;i0+50;");
        for (int kind = 0; kind < 3; kind++) {
            int pulse = kind;
            Checks.due("the kind of " + kind, kind, () -> x.pulse(pulse, 0));
        }
    }

    private static void phases(int shift, int[]... rows) {
        for (int[] row : rows) {
            DischargeRecorder x = new DischargeRecorder();
            x.set(0, shift);
            x.record(0, row[0], 100);
            Checks.due("phase at " + row[0] + " with shift " + shift, row[1],
                () -> x.pulse(0, 3));
        }
    }

    private static void cycle() {
        Doc.says("Pulses", "A cycle has 360 ticks.");
        phases(0, new int[][] {{0, 0}, {1, 1}, {359, 359}, {360, 0}, {361, 1}, {719, 359},
            {720, 0}, {999719, 359}, {999720, 0}, {1000000, 280}});
    }

    private static void phase() {
        Doc.says("Pulses", "The phase of a pulse is (time + shift) modulo 360;");
        phases(1, new int[][] {{358, 359}, {359, 0}, {360, 1}, {718, 359}, {719, 0}});
        phases(359, new int[][] {{0, 359}, {1, 0}, {360, 359}, {361, 0}, {1000000, 279}});
        phases(79, new int[][] {{1000000, 359}});
        phases(80, new int[][] {{1000000, 0}});
    }

    private static void shift() {
        Doc.says("Pulses", "the shift is 0 to 359, initially 0.");
        Edge.setting(0, 0, 359, 0);
    }

    private static void charge(String text, int pulse, int due) {
        DischargeRecorder x = Checks.recorder(text);
        Checks.due("charge of " + pulse + " in " + text, due, () -> x.pulse(pulse, 4));
    }

    private static void sumOfInjected() {
        Doc.says("Calibration", "n be the number of injected pulses in the log, and s the sum of"
            + " the absolute values of their amplitudes");
        charge("i0+40;m0+50;", 1, 125);
        charge("i0-40;m0+50;", 1, 125);
        charge("i0-30;i0+40;m0+50;", 2, 142);
        charge("i0+40;i0-40;m0+50;", 2, 125);
        charge("i0+40;n0+999;m0+50;m0+888;", 2, 125);
        charge("m0+50;i9+40;", 0, 125);
        charge("i0+40;i0+0;m0+50;", 2, 250);
        DischargeRecorder x = Checks.recorder("i0+40;i5+60;m0+50;");
        x.forget(1);
        Checks.due("one that is gone does not count", 83, () -> x.pulse(1, 4));
        x.undo();
        Checks.due("one that is back counts", 100, () -> x.pulse(2, 4));
    }

    private static void chargeRoundedDown() {
        Doc.says("Calibration", "|a| * q * n / s, rounded down");
        int[] due = {0, 0, 0, 1, 1, 1, 2, 2, 2, 3};
        for (int a = 0; a < due.length; a++) {
            int size = a;
            for (int sign = -1; sign <= 1; sign += 2) {
                int amplitude = sign * a;
                DischargeRecorder x = Edge.with("i0+3;", 1, 1);
                x.record(0, 0, amplitude);
                Checks.due("a third of " + amplitude, due[size], () -> x.pulse(1, 4));
            }
        }
        charge("i0+3;m0+20;", 1, 666);
        charge("i0+2000;m0-19;", 1, 0);
        charge("i0+2000;m0-20;", 1, 1);
        DischargeRecorder x = Checks.heavy(249);
        x.record(0, 0, -2000);
        Checks.due("the greatest charge", 498000000, () -> x.pulse(249, 4));
        Checks.due("of the injected pulse", 249000, () -> x.pulse(0, 4));
        Checks.due("of an injected 0", 0, () -> x.pulse(1, 4));
    }

    private static void injectedCharge() {
        Doc.says("Calibration", "q is the injected charge, 1 to 1000, initially 100");
        Edge.setting(1, 1, 1000, 100);
        DischargeRecorder x = Edge.with("i0+40;m0+50;", 1, 1);
        Checks.due("with 1", 1, () -> x.pulse(1, 4));
        x.set(1, 1000);
        Checks.due("with 1000", 1250, () -> x.pulse(1, 4));
    }

    private static void nothingInjected() {
        Doc.says("Calibration", "if n or s is 0, its charge is |a|.");
        charge("m0+50;", 0, 50);
        charge("m0-50;", 0, 50);
        charge("m0+0;", 0, 0);
        charge("n0-50;", 0, 50);
        charge("i0+0;m0-50;", 1, 50);
        charge("i0+0;i0-0;m0+2000;", 2, 2000);
        charge("i0+0;", 0, 0);
        charge("i0+0;i0-1;m0-50;", 2, 10000);
        charge("i0+1;m0-50;", 1, 5000);
        DischargeRecorder x = Checks.recorder("i0+40;m9-50;");
        x.forget(1);
        Checks.due("none is left", 50, () -> x.pulse(0, 4));
    }

    private static void newObject() {
        Doc.says("1", "an empty log and the initial values");
        int[] first = {0, 100, 20, 200, 3, 2, 10, 20, 1, 2, 500};
        DischargeRecorder x = new DischargeRecorder();
        for (int what = 0; what <= 10; what++) {
            int asked = what;
            Checks.due("value " + what, first[what], () -> x.value(asked));
        }
        Checks.due("pulses", 0, x::pulses);
        Checks.due("no pulse", Checks.IOOBE, () -> x.pulse(0, 0));
        Checks.due("no text", 0, x::clearText);
        Checks.due("no saved state", Checks.ISE, x::undo);
        Checks.due("no windows", 0, x::unblock);
        Object alone = Edge.trace(new DischargeRecorder());
        Checks.due("another object", 250, () -> Edge.State.FULL.make().pulses());
        Checks.due("objects share nothing", alone, () -> Edge.trace(new DischargeRecorder()));
    }

    private static void record() {
        Doc.says("6", "Records a pulse.");
        Doc.says("6", "Undoable.");
        Doc.says("6", "Returns the number of the pulse.");
        DischargeRecorder x = new DischargeRecorder();
        Checks.due("the first", 0, () -> x.record(1, 5, -7));
        Checks.due("the second", 1, () -> x.record(2, 5, 8));
        Checks.pulsesAre(x, "both", new int[] {1, 5, -7}, new int[] {2, 5, 8});
        Checks.due("undone", 1, x::undo);
        Checks.pulsesAre(x, "one", new int[] {1, 5, -7});
        Checks.due("the number is free again", 1, () -> x.record(0, 5, 8));
        x.forget(1000000);
        Checks.due("the first again", 0, () -> x.record(0, 0, 8));
    }

    private static void recordRefuses() {
        Doc.says("6", "`kind`: 0 to 2");
        Edge.range("record of kind", 0, 2, (x, kind) -> x.record(kind, 0, 0));
        Doc.says("6", "`time`: 0 to 1000000, not before the time of the last pulse");
        Edge.range("record at", 0, 1000000, (x, time) -> x.record(2, time, 0));
        Edge.refusedIn(Edge.State.RICH, "before the last pulse", Checks.IAE,
            x -> x.record(0, 386, 0));
        Edge.taken(Edge.State.RICH, "at the last pulse", x -> x.record(0, 387, 0));
        DischargeRecorder x = Edge.State.RICH.make();
        x.forget(1000000);
        Checks.due("in a log that was emptied", 0, () -> x.record(0, 0, 0));
        x.undo();
        x.undo();
        Checks.due("before a pulse that is back", Checks.IAE, () -> x.record(0, 0, 0));
        Doc.says("6", "`amplitude`: -2000 to 2000");
        Edge.range("record of", -2000, 2000, (y, amplitude) -> y.record(1, 0, amplitude));
        Doc.says("6", "Throws `IllegalArgumentException` if an argument is out of range");
        Edge.refused("all out of range", Checks.IAE, y -> y.record(3, -1, 2001));
        Doc.says("6", "Throws `IllegalStateException` if there are 250 pulses");
        for (int kind = 0; kind < 3; kind++) {
            int last = kind;
            Edge.refusedIn(Edge.State.FULL, "a pulse too many", Checks.ISE,
                y -> y.record(last, 2250, 0));
        }
        DischargeRecorder y = Edge.State.FULL.make();
        y.undo();
        Checks.due("after undo", 225, () -> y.record(0, 2250, 0));
        for (int i = 226; i < 250; i++) {
            int due = i;
            Checks.due("up to 250", due, () -> y.record(0, 2250, 0));
        }
        Checks.due("the next one", Checks.ISE, () -> y.record(0, 2250, 0));
        Checks.due("the oldest one goes", 1, () -> y.forget(10));
        Checks.due("room for one", 249, () -> y.record(0, 2250, 0));
        Checks.due("not for two", Checks.ISE, () -> y.record(0, 2250, 0));
    }

    private static void forget() {
        Doc.says("7", "Removes the pulses before a time from the log.");
        Doc.says("7", "Returns the number of pulses that were removed.");
        Doc.says("7", "Undoable.");
        int[][] rows = {{0, 0}, {4, 0}, {5, 0}, {6, 2}, {8, 2}, {9, 2}, {10, 3}, {1000000, 3}};
        for (int[] row : rows) {
            DischargeRecorder x = Checks.recorder("m5+50;n0-60;i4+70;");
            Checks.due("before " + row[0], row[1], () -> x.forget(row[0]));
            Checks.due("left from " + row[0], 3 - row[1], x::pulses);
            Checks.due("undone", 3, x::undo);
            Checks.due("all of them again", 3, x::pulses);
        }
        DischargeRecorder x = new DischargeRecorder();
        Checks.due("of an empty log", 0, () -> x.forget(1000000));
        Checks.due("of a full log", 250, () -> Edge.State.FULL.make().forget(1000000));
        Checks.due("of a full log, but for its last pulse", 249,
            () -> Edge.State.FULL.make().forget(2250));
        Checks.due("pulses of the last tick stay", 0, () -> Edge.at(1000000).forget(1000000));
    }

    private static void forgetRenumbers() {
        Doc.says("7", "The numbers of the other ones decrease accordingly.");
        DischargeRecorder x = Checks.recorder("m1+50;n1-60;i1+70;m1-80;n1+90;");
        x.forget(3);
        Checks.pulsesAre(x, "three are left", new int[] {2, 3, 70}, new int[] {0, 4, -80},
            new int[] {1, 5, 90});
        Checks.due("no pulse 3", Checks.IOOBE, () -> x.pulse(3, 0));
        Checks.due("the next number", 3, () -> x.record(0, 5, 0));
        x.undo();
        x.undo();
        Checks.pulsesAre(x, "five are back", new int[] {0, 1, 50}, new int[] {1, 2, -60},
            new int[] {2, 3, 70}, new int[] {0, 4, -80}, new int[] {1, 5, 90});
    }

    private static void forgetRange() {
        Doc.says("7", "`time`: 0 to 1000000");
        Doc.says("7", "Throws `IllegalArgumentException` if time is out of range");
        Edge.range("forget", 0, 1000000, DischargeRecorder::forget);
        Edge.range(Edge.State.FULL, "forget", 0, 1000000, Checks.IAE, DischargeRecorder::forget);
    }

    private static void pulses() {
        Doc.says("11", "Returns the number of pulses in the log.");
        Doc.says("11", "Returns 0 to 250.");
        DischargeRecorder x = new DischargeRecorder();
        Checks.due("none", 0, x::pulses);
        for (int i = 0; i < 250; i++) {
            x.record(i % 3, 0, 0);
            Checks.due("so many", i + 1, x::pulses);
        }
        Checks.due("a pulse too many", Checks.ISE, () -> x.record(0, 0, 0));
        Checks.due("still so many", 250, x::pulses);
        x.forget(1);
        Checks.due("none again", 0, x::pulses);
    }

    private static void pulseFacts() {
        Doc.says("12", "Returns something about a pulse.");
        Doc.says("12", "`what`: 0 its kind, 1 its time, 2 its amplitude, 3 its phase, 4 its charge,"
            + " 5 its status, 6 the number of its burst (NONE if it is not accepted)");
        Doc.says("12", "Returns that value.");
        DischargeRecorder x = Checks.recorder(ONE_OF_EACH);
        x.block(83, 83);
        Checks.pulsesAre(x, "all", new int[] {0, 2, 50, 2, 125, 0, 0},
            new int[] {0, 3, 60, 3, 150, 4, -1}, new int[] {0, 13, -19, 13, 47, 1, -1},
            new int[] {1, 25, 200, 25, 500, 5, -1}, new int[] {0, 28, -70, 28, 175, 2, -1},
            new int[] {2, 33, 40, 33, 100, 6, -1}, new int[] {0, 33, -80, 33, 200, 0, 1},
            new int[] {0, 83, 90, 83, 225, 3, -1});
        Doc.says("The constants", "`NONE = -1`: There is no such thing.");
        Checks.due("NONE", DischargeRecorder.NONE, () -> x.pulse(1, 6));
    }

    private static void pulseRefuses() {
        Doc.says("12", "`pulse`: number of a pulse");
        Doc.says("12", "Throws `IndexOutOfBoundsException` if there is no such pulse");
        Edge.range(Edge.State.FULL, "pulse", 0, 249, Checks.IOOBE, (x, pulse) -> x.pulse(pulse, 0));
        Edge.refusedIn(Edge.State.FRESH, "of an empty log", Checks.IOOBE, x -> x.pulse(0, 0));
        Edge.taken(Edge.State.RICH, "the last one", x -> x.pulse(6, 0));
        Edge.refusedIn(Edge.State.RICH, "behind the last one", Checks.IOOBE, x -> x.pulse(7, 0));
        Doc.says("12", "Throws `IllegalArgumentException` if what is out of range");
        for (int what : new int[] {-1, 7, Integer.MIN_VALUE, Integer.MAX_VALUE}) {
            for (Edge.State state : new Edge.State[] {Edge.State.RICH, Edge.State.FULL}) {
                Edge.refusedIn(state, "what " + what, Checks.IAE, x -> x.pulse(0, what));
                Edge.refusedIn(state, "what " + what, Checks.IAE,
                    x -> x.pulse(x.pulses() - 1, what));
            }
        }
        for (int what = 0; what <= 6; what++) {
            int asked = what;
            Edge.taken(Edge.State.RICH, "what " + what, x -> x.pulse(6, asked));
        }
    }

    private static void statuses() {
        Doc.says("13", "Counts the pulses with a status.");
        Doc.says("13", "Returns their number.");
        DischargeRecorder x = Checks.recorder(ONE_OF_EACH);
        x.block(83, 83);
        int[] due = {2, 1, 1, 1, 1, 1, 1};
        for (int status = 0; status <= 6; status++) {
            int asked = status;
            Checks.due("status " + status, due[status], () -> x.statuses(asked));
            Checks.due("status " + status + " of none", 0,
                () -> new DischargeRecorder().statuses(asked));
        }
        DischargeRecorder full = new DischargeRecorder();
        for (int i = 0; i < 250; i++) {
            full.record(0, 4 * i, 100);
        }
        Checks.due("all of a full log", 250, () -> full.statuses(0));
        full.set(2, 101);
        Checks.due("none of a full log", 0, () -> full.statuses(0));
        Checks.due("all are quiet", 250, () -> full.statuses(1));
    }

    private static void statusesRange() {
        Doc.says("13", "`status`: 0 to 6");
        Doc.says("13", "Throws `IllegalArgumentException` if status is out of range");
        Edge.range("statuses", 0, 6, DischargeRecorder::statuses);
    }
}
