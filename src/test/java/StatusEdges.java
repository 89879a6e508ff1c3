import java.util.Arrays;

/** The edges of the paragraph Status, and of promises 2 to 5. */
final class StatusEdges {
    private StatusEdges() {
    }

    static void all() {
        quiet();
        gateLevel();
        gateWidth();
        gateInTheLog();
        blocked();
        dead();
        deadAfterAccepted();
        firstThatApplies();
        accepted();
        windowOfPhases();
        mostWindows();
        otherKinds();
        set();
        value();
        block();
        unblock();
    }

    private static void status(int due, String text, int pulse, int... settings) {
        Checks.due("status of " + pulse + " in " + text + " with " + Arrays.toString(settings), due,
            () -> Edge.status(text, pulse, settings));
    }

    private static void quiet() {
        Doc.says("Status", "1 quiet: |a| is less than the level (0 to 2000, initially 20);");
        Edge.setting(2, 0, 2000, 20);
        for (int level : new int[] {0, 1, 20, 1999, 2000}) {
            for (int a = Math.max(0, level - 1); a <= Math.min(2000, level + 1); a++) {
                int due = a < level ? 1 : 0;
                status(due, "m5+" + a + ";", 0, 2, level);
                status(due, "m5-" + a + ";", 0, 2, level);
            }
        }
        status(1, "m5+19;", 0);
        status(0, "m5-20;", 0);
        status(1, "i0+1;m5+19;", 1);
        status(0, "i0+2000;m5+20;", 1);
    }

    private static void gateLevel() {
        Doc.says("Status", "an antenna pulse in the log whose amplitude has an absolute value of at"
            + " least the gate level (1 to 2000, initially 200)");
        Edge.setting(3, 1, 2000, 200);
        for (int level : new int[] {1, 2, 200, 1999, 2000}) {
            for (int a = level - 1; a <= Math.min(2000, level + 1); a++) {
                int due = a < level ? 0 : 2;
                status(due, "n5+" + a + ";m0+50;", 1, 3, level);
                status(due, "n5-" + a + ";m0+50;", 1, 3, level);
                status(due, "m5+50;n0+" + a + ";", 0, 3, level);
                status(due, "m5+50;n0-" + a + ";", 0, 3, level);
            }
        }
        status(2, "n5+200;m0+50;", 1);
        status(0, "n5-199;m0+50;", 1);
        status(0, "i5+2000;m9+2000;m5+50;", 2, 4, 100);
    }

    private static void gateWidth() {
        Doc.says("Status", "whose time differs from that of the pulse by at most the gate width (0"
            + " to 100 ticks, initially 3)");
        Edge.setting(4, 0, 100, 3);
        for (int width : new int[] {0, 1, 3, 99, 100}) {
            for (int apart = Math.max(0, width - 1); apart <= width + 1; apart++) {
                int due = apart <= width ? 2 : 0;
                status(due, "n0+300;m" + apart + "+50;", 1, 4, width);
                status(due, "m0+50;n" + apart + "+300;", 0, 4, width);
                status(due, "n777+300;m" + apart + "+50;", 1, 4, width);
                status(due, "m777+50;n" + apart + "+300;", 0, 4, width);
            }
        }
        status(2, "n0+300;m3+50;", 1);
        status(0, "n0+300;m4+50;", 1);
        // A nearer one that is too weak hides none, on neither side.
        status(2, "n5+300;n3+199;m0+50;", 2);
        status(2, "m5+50;n0+199;n3+300;", 0);
        // The nearest one on one side is too far away, that on the other side is not.
        status(2, "n5+300;m4+50;n3+300;", 1);
        status(2, "n5+300;m3+50;n4+300;", 1);
        status(0, "n5+300;m4+50;n4+300;", 1);
        DischargeRecorder x = new DischargeRecorder();
        x.record(0, 999997, 50);
        x.record(1, 1000000, 200);
        Checks.due("at the last ticks", 2, () -> x.pulse(0, 5));
    }

    private static void gateInTheLog() {
        Doc.says("Status", "2 gated: there is an antenna pulse in the log");
        DischargeRecorder x = Checks.recorder("n5+300;m3+50;");
        Checks.due("it is there", 2, () -> x.pulse(1, 5));
        x.forget(6);
        Checks.due("it is gone", 0, () -> x.pulse(0, 5));
        x.undo();
        Checks.due("it is back", 2, () -> x.pulse(1, 5));
        DischargeRecorder y = Checks.recorder("m5+50;");
        Checks.due("not yet", 0, () -> y.pulse(0, 5));
        y.record(1, 8, 200);
        Checks.due("now there is one", 2, () -> y.pulse(0, 5));
        y.undo();
        Checks.due("no longer", 0, () -> y.pulse(0, 5));
        DischargeRecorder z = Edge.with("n0+300;m50+60;m50+70;m50+80;", 4, 100);
        int[] due = {5, 2, 2, 0};
        for (int i = 0; i < due.length; i++) {
            int pulse = i;
            Checks.due("one gates many, " + i, due[i], () -> z.pulse(pulse, 5));
        }
    }

    private static void blocked() {
        Doc.says("Status", "3 blocked: its phase lies in a blocked window;");
        DischargeRecorder x = Edge.at(10, 11, 370, 371, 1000000);
        x.set(5, 0);
        x.block(10, 10);
        int[] due = {3, 0, 3, 0, 0};
        for (int i = 0; i < due.length; i++) {
            int pulse = i;
            Checks.due("phase 10, " + i, due[i], () -> x.pulse(pulse, 5));
        }
        x.block(280, 280);
        Checks.due("a second window", 3, () -> x.pulse(4, 5));
        Checks.due("the first one too", 3, () -> x.pulse(0, 5));
        x.set(0, 359);
        Checks.due("the shift takes it out", 0, () -> x.pulse(0, 5));
        Checks.due("and another one in", 3, () -> x.pulse(1, 5));
    }

    private static void dead() {
        Doc.says("Status", "4 dead: it is less than the dead time (0 to 1000 ticks, initially 2)");
        Edge.setting(5, 0, 1000, 2);
        for (int time : new int[] {0, 1, 2, 3, 999, 1000}) {
            for (int apart = Math.max(0, time - 1); apart <= time + 1; apart++) {
                int due = apart < time ? 4 : 0;
                status(due, "m0+50;m" + apart + "+50;", 1, 5, time);
                status(due, "m777+50;m" + apart + "+50;", 1, 5, time);
                status(0, "m0+50;m" + apart + "+50;", 0, 5, time);
            }
        }
        status(4, "m5+50;m1+50;", 1);
        status(0, "m5+50;m2+50;", 1);
        status(4, "m5+50;m0+50;", 1, 5, 1);
        status(0, "m5+50;m0+50;", 1, 5, 0);
        status(0, "m0+50;", 0, 5, 1000);
        status(0, "m1+50;", 0, 5, 1000);
    }

    private static void deadAfterAccepted() {
        Doc.says("Status", "after the accepted pulse before it;");
        status(0, "m5+50;m9+50;m1+50;", 2, 5, 10);
        status(4, "m5+50;m9+50;m0+50;", 2, 5, 10);
        status(4, "m5+50;m5+19;m4+50;", 2, 5, 10);
        status(0, "m5+50;m5+19;m5+50;", 2, 5, 10);
        status(0, "m5+19;m1+50;", 1, 5, 10);
        status(0, "n5+50;m1+50;", 1, 5, 10);
        status(0, "i5+50;m1+50;", 1, 5, 10);
        status(0, "n5+300;m3+50;m1+50;", 2, 5, 10);
        status(4, "m5+50;n5+9;m4+50;", 2, 5, 10);
        status(4, "m5+50;i5+9;m4+50;", 2, 5, 10);
        DischargeRecorder x = Edge.with("m5+50;m1+50;m8+50;", 5, 10);
        Checks.due("dead behind the first", 4, () -> x.pulse(2, 5));
        x.block(5, 5);
        Checks.due("a blocked one makes none dead", 0, () -> x.pulse(1, 5));
        Checks.due("dead behind the second", 4, () -> x.pulse(2, 5));
        x.block(6, 6);
        Checks.due("none before it is accepted", 0, () -> x.pulse(2, 5));
        x.unblock();
        x.forget(6);
        Checks.due("the accepted one is gone", 0, () -> x.pulse(0, 5));
    }

    private static void firstThatApplies() {
        Doc.says("Status", "the first of these that applies");
        for (int mask = 0; mask < 16; mask++) {
            boolean quiet = (mask & 1) != 0;
            boolean gated = (mask & 2) != 0;
            boolean blocked = (mask & 4) != 0;
            boolean dead = (mask & 8) != 0;
            DischargeRecorder x = new DischargeRecorder();
            x.set(5, 10);
            x.record(0, dead ? 95 : 90, 60);
            x.record(0, 100, quiet ? -19 : -20);
            x.record(1, 103, gated ? 200 : 199);
            if (blocked) {
                x.block(100, 100);
            }
            int due = quiet ? 1 : gated ? 2 : blocked ? 3 : dead ? 4 : 0;
            Checks.due("the first of " + mask, due, () -> x.pulse(1, 5));
            Checks.due("the pulse before it", 0, () -> x.pulse(0, 5));
        }
    }

    private static void accepted() {
        Doc.says("Status", "otherwise 0 accepted.");
        DischargeRecorder x = new DischargeRecorder();
        x.set(4, 0);
        x.block(99, 99);
        x.block(101, 101);
        x.record(0, 98, 20);
        x.record(1, 99, -2000);
        x.record(0, 100, 20);
        x.record(1, 101, 2000);
        Checks.due("just not quiet, gated, blocked or dead", 0, () -> x.pulse(2, 5));
    }

    private static boolean[] blockedPhases(int... ends) {
        boolean[] seen = new boolean[360];
        for (int half = 0; half < 360; half += 180) {
            DischargeRecorder x = new DischargeRecorder();
            x.set(5, 0);
            for (int i = 0; i + 1 < ends.length; i += 2) {
                x.block(ends[i], ends[i + 1]);
            }
            for (int phase = half; phase < half + 180; phase++) {
                int pulse = x.record(0, 3600 + phase, 100);
                seen[phase] = x.pulse(pulse, 5) == 3;
            }
        }
        return seen;
    }

    private static void windowOfPhases() {
        Doc.says("Status", "the phases from its first one on up to its last one, going over 359 to"
            + " 0 if the last one is lower than the first one;");
        int[][] windows = {{0, 0}, {359, 359}, {0, 359}, {359, 0}, {0, 1}, {1, 0}, {358, 359},
            {10, 20}, {20, 10}, {180, 179}, {179, 180}, {355, 5}, {100, 100}, {0, 358},
            {1, 359}, {10, 20, 21, 30}, {10, 20, 15, 25}, {350, 10, 20, 30}, {0, 3, 5, 5, 9, 8},
            {1, 2, 4, 5, 7, 8, 357, 0}};
        for (int[] ends : windows) {
            boolean[] due = new boolean[360];
            for (int i = 0; i < ends.length; i += 2) {
                due[ends[i]] = true;
                for (int phase = ends[i]; phase != ends[i + 1];) {
                    phase = phase == 359 ? 0 : phase + 1;
                    due[phase] = true;
                }
            }
            Checks.due("phases of " + Arrays.toString(ends), Arrays.toString(due),
                () -> Arrays.toString(blockedPhases(ends)));
        }
        Checks.due("no window", Arrays.toString(new boolean[360]),
            () -> Arrays.toString(blockedPhases()));
    }

    private static void mostWindows() {
        Doc.says("Status", "there are at most 4 windows, initially none.");
        DischargeRecorder x = Edge.at(0, 10, 20, 30, 40);
        Checks.due("initially none", 0, () -> x.statuses(3));
        for (int i = 0; i < 4; i++) {
            int phase = 10 * i;
            Checks.due("a window", i + 1, () -> x.block(phase, phase));
            Checks.due("it blocks", i + 1, () -> x.statuses(3));
        }
        Checks.due("a fifth one", Checks.ISE, () -> x.block(40, 40));
        Checks.due("it does not block", 4, () -> x.statuses(3));
        x.undo();
        Checks.due("room again", 4, () -> x.block(40, 40));
        Checks.due("the last pulse", 3, () -> x.pulse(4, 5));
        Checks.due("the last but one", 0, () -> x.pulse(3, 5));
    }

    private static void otherKinds() {
        Doc.says("Status", "The status of antenna pulses is 5, that of injected pulses 6.");
        for (int kind = 1; kind <= 2; kind++) {
            for (int amplitude : new int[] {-2000, -1, 0, 1, 19, 20, 200, 2000}) {
                DischargeRecorder x = new DischargeRecorder();
                x.record(1, 0, 2000);
                x.record(0, 9, 100);
                x.record(kind, 9, amplitude);
                int due = kind + 4;
                Checks.due("kind " + kind + " of " + amplitude, due, () -> x.pulse(2, 5));
                x.block(0, 359);
                x.set(4, 100);
                Checks.due("kind " + kind + " gated and blocked", due, () -> x.pulse(2, 5));
            }
        }
    }

    private static void set() {
        Doc.says("2", "Sets a value.");
        Doc.says("2", "Undoable.");
        Doc.says("2", "Returns the previous value.");
        int[] first = {0, 100, 20, 200, 3, 2, 10, 20, 1, 2, 500};
        for (int what = 0; what <= 10; what++) {
            int asked = what;
            DischargeRecorder x = new DischargeRecorder();
            Checks.due("set " + what, first[what], () -> x.set(asked, 7));
            Checks.due("set " + what + " again", 7, () -> x.set(asked, 8));
            for (int other = 0; other <= 10; other++) {
                int seen = other;
                Checks.due("value " + other + " after " + what, other == what ? 8 : first[other],
                    () -> x.value(seen));
            }
            Checks.due("undo of set " + what, 1, x::undo);
            Checks.due("value " + what + " undone", 7, () -> x.value(asked));
            Checks.due("undo of both", 0, x::undo);
            Checks.due("the first value " + what, first[what], () -> x.value(asked));
        }
        Doc.says("2", "`what`: 0 the shift, 1 the injected charge, 2 the level, 3 the gate level,");
        Edge.range("set", 0, 10, (x, what) -> x.set(what, 1));
        Doc.says("2", "`value`: the new value, in its range");
        Doc.says("2", "Throws `IllegalArgumentException` if what or value is out of range");
        int[][] ranges = {{0, 359}, {1, 1000}, {0, 2000}, {1, 2000}, {0, 100}, {0, 1000},
            {1, 1000}, {0, 1000}, {1, 1000}, {1, 10}, {1, 100000}};
        for (int what = 0; what <= 10; what++) {
            int asked = what;
            Edge.range("set " + what + " to", ranges[what][0], ranges[what][1],
                (x, value) -> x.set(asked, value));
        }
        Edge.refused("what and value", Checks.IAE, x -> x.set(11, -1));
        // What cannot be set has no range that a value could be in.
        for (int value : new int[] {0, 1, 7, 100000}) {
            Edge.refused("what -1, value " + value, Checks.IAE, x -> x.set(-1, value));
            Edge.refused("what 11, value " + value, Checks.IAE, x -> x.set(11, value));
        }
    }

    private static void value() {
        Doc.says("3", "Returns a value.");
        Doc.says("3", "Returns the value.");
        DischargeRecorder x = new DischargeRecorder();
        for (int what = 0; what <= 10; what++) {
            x.set(what, 10 - what + (what == 10 ? 77 : 0));
        }
        for (int what = 0; what <= 10; what++) {
            int asked = what;
            Checks.due("value " + what, what == 10 ? 77 : 10 - what, () -> x.value(asked));
        }
        Doc.says("3", "`what`: 0 to 10 as for set()");
        Doc.says("3", "Throws `IllegalArgumentException` if what is out of range");
        Edge.range("value", 0, 10, DischargeRecorder::value);
    }

    private static void block() {
        Doc.says("4", "Adds a blocked window.");
        Doc.says("4", "Undoable.");
        Doc.says("4", "Returns the number of windows.");
        DischargeRecorder x = Edge.at(15);
        Checks.due("no window yet", 0, () -> x.pulse(0, 5));
        Checks.due("the first", 1, () -> x.block(15, 15));
        Checks.due("blocked", 3, () -> x.pulse(0, 5));
        Checks.due("the same again", 2, () -> x.block(15, 15));
        Checks.due("undo of the second", 2, x::undo);
        Checks.due("still blocked", 3, () -> x.pulse(0, 5));
        Checks.due("undo of the first", 1, x::undo);
        Checks.due("no longer blocked", 0, () -> x.pulse(0, 5));
        Doc.says("4", "`first`: its first phase, 0 to 359");
        Doc.says("4", "`last`: its last phase, 0 to 359");
        Doc.says("4", "Throws `IllegalArgumentException` if first or last is out of range");
        for (int other : new int[] {0, 180, 359}) {
            Edge.range("block to " + other + " from", 0, 359, (y, first) -> y.block(first, other));
            Edge.range("block from " + other + " to", 0, 359, (y, last) -> y.block(other, last));
        }
        Edge.refused("both out of range", Checks.IAE, y -> y.block(360, -1));
        Doc.says("4", "Throws `IllegalStateException` if there are 4 windows");
        Edge.refusedIn(Edge.State.FULL, "a fifth window", Checks.ISE, y -> y.block(0, 359));
        DischargeRecorder y = Edge.State.FULL.make();
        y.unblock();
        for (int i = 1; i <= 4; i++) {
            Checks.due("after unblock", i, () -> y.block(3, 4));
        }
        Checks.due("four again", Checks.ISE, () -> y.block(3, 4));
    }

    private static void unblock() {
        Doc.says("5", "Removes all blocked windows.");
        Doc.says("5", "Returns the number of windows that there were.");
        Doc.says("5", "Undoable.");
        for (int number = 0; number <= 4; number++) {
            DischargeRecorder x = Edge.at(10, 20, 30, 40);
            for (int i = 1; i <= number; i++) {
                x.block(10 * i, 10 * i);
            }
            int due = number;
            Checks.due("blocked by " + number, due, () -> x.statuses(3));
            Checks.due("unblock of " + number, due, x::unblock);
            Checks.due("none is blocked", 0, () -> x.statuses(3));
            Checks.due("unblock of none", 0, x::unblock);
            Checks.due("undo of that", 3, x::undo);
            Checks.due("none is blocked still", 0, () -> x.statuses(3));
            Checks.due("undo of unblock", 2, x::undo);
            Checks.due("blocked again", due, () -> x.statuses(3));
        }
    }
}
