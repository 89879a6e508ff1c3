/** The edges of promises 24 and 25. */
final class WhatIfEdges {
    private WhatIfEdges() {
    }

    static void all() {
        withOtherSettings();
        asIfTheyWereSet();
        withRanges();
        smallestLevel();
        levelOfFewPulses();
        levelAndOtherStatuses();
        levelAndDeadTime();
        mostRange();
    }

    private static void with(int due, String text, int level, int gateLevel, int gateWidth,
            int deadTime, int status) {
        DischargeRecorder x = Checks.recorder(text);
        Checks.due(text + " with " + level + " " + gateLevel + " " + gateWidth + " " + deadTime
            + ", status " + status, due,
            () -> x.statusesWith(level, gateLevel, gateWidth, deadTime, status));
    }

    private static void withOtherSettings() {
        Doc.says("24", "Counts the pulses that would have a status with other settings.");
        Doc.says("24", "Returns their number.");
        with(1, "m5-50;", 50, 1, 0, 0, 0);
        with(0, "m5-50;", 51, 1, 0, 0, 0);
        with(1, "m5-50;", 51, 1, 0, 0, 1);
        with(1, "m5+0;", 0, 1, 0, 0, 0);
        with(1, "m5+0;", 1, 1, 0, 0, 1);
        with(1, "m5+2000;", 2000, 1, 0, 0, 0);
        with(1, "m5+50;n4-1;", 0, 1, 4, 0, 2);
        with(0, "m5+50;n4-1;", 0, 1, 3, 0, 2);
        with(0, "m5+50;n4-1;", 0, 2, 4, 0, 2);
        with(1, "m5+50;n0+2000;", 0, 2000, 0, 0, 2);
        with(1, "m5+50;n100+2000;", 0, 2000, 100, 0, 2);
        with(0, "m5+50;n101+2000;", 0, 2000, 100, 0, 2);
        with(0, "m5+50;n100+1999;", 0, 2000, 100, 0, 2);
        with(0, "m5+50;m0+50;", 0, 1, 0, 0, 4);
        with(1, "m5+50;m0+50;", 0, 1, 0, 1, 4);
        with(0, "m5+50;m1+50;", 0, 1, 0, 1, 4);
        with(1, "m5+50;m999+50;", 0, 1, 0, 1000, 4);
        with(0, "m5+50;m1000+50;", 0, 1, 0, 1000, 4);
        with(1, "m5+50;n0+9;i0+9;", 2000, 1, 0, 0, 5);
        with(1, "m5+50;n0+9;i0+9;", 2000, 1, 0, 0, 6);
        for (int status = 0; status <= 6; status++) {
            int asked = status;
            Checks.due("of an empty log", 0,
                () -> new DischargeRecorder().statusesWith(0, 1, 100, 1000, asked));
        }
    }

    /** What would be with other settings is what is when they are set. */
    private static void asIfTheyWereSet() {
        Doc.says("24", "with other settings");
        int[][] rows = {{20, 200, 3, 2}, {0, 1, 0, 0}, {2000, 2000, 100, 1000}, {61, 95, 9, 10},
            {60, 96, 10, 28}, {0, 95, 8, 27}, {50, 95, 18, 18}, {51, 1, 100, 1}};
        for (Edge.State state : Edge.State.values()) {
            for (int[] row : rows) {
                DischargeRecorder x = state.make();
                DischargeRecorder set = state.make();
                for (int i = 0; i < 4; i++) {
                    set.set(2 + i, row[i]);
                }
                for (int status = 0; status <= 6; status++) {
                    int asked = status;
                    Checks.due("with " + row[0] + " " + row[1] + " " + row[2] + " " + row[3] + ", "
                        + status + ", " + state, set.statuses(status),
                        () -> x.statusesWith(row[0], row[1], row[2], row[3], asked));
                }
                Checks.due("nothing is changed by asking", Edge.trace(state.make()),
                    () -> Edge.trace(x));
            }
        }
    }

    private static void withRanges() {
        Doc.says("24", "`level`: 0 to 2000");
        Doc.says("24", "`gateLevel`: 1 to 2000");
        Doc.says("24", "`gateWidth`: 0 to 100");
        Doc.says("24", "`deadTime`: 0 to 1000");
        Doc.says("24", "`status`: 0 to 6");
        Doc.says("24", "Throws `IllegalArgumentException` if an argument is out of range");
        Edge.range("with level", 0, 2000, (x, v) -> x.statusesWith(v, 1, 0, 0, 0));
        Edge.range("with gate level", 1, 2000, (x, v) -> x.statusesWith(0, v, 0, 0, 0));
        Edge.range("with gate width", 0, 100, (x, v) -> x.statusesWith(0, 1, v, 0, 0));
        Edge.range("with dead time", 0, 1000, (x, v) -> x.statusesWith(0, 1, 0, v, 0));
        Edge.range("with status", 0, 6, (x, v) -> x.statusesWith(0, 1, 0, 0, v));
        Edge.refused("all of them", Checks.IAE, x -> x.statusesWith(-1, 0, -1, -1, -1));
        Edge.taken(Edge.State.FULL, "the greatest of all",
            x -> x.statusesWith(2000, 2000, 100, 1000, 6));
    }

    private static void smallestLevel() {
        Doc.says("25", "Returns the smallest level with which at most a number of pulses would be"
            + " accepted.");
        Doc.says("25", "Returns the level, 0 to 2000;");
        DischargeRecorder x = new DischargeRecorder();
        for (int i = 1; i <= 250; i++) {
            x.record(0, 4 * i, i % 2 == 0 ? 8 * i : -8 * i);
        }
        for (int most = 0; most <= 250; most++) {
            int asked = most;
            // All but the smallest ones: a level just above the greatest of those is the least.
            Checks.due("levelFor " + most, most == 0 ? -1 : most == 250 ? 0 : 8 * (250 - most) + 1,
                () -> x.levelFor(asked));
        }
        DischargeRecorder same = new DischargeRecorder();
        for (int i = 0; i < 250; i++) {
            same.record(0, 4 * i, 1000);
        }
        Checks.due("all are alike, 250", 0, () -> same.levelFor(250));
        Checks.due("all are alike, 249", 1001, () -> same.levelFor(249));
        Checks.due("all are alike, 0", 1001, () -> same.levelFor(0));
        same.set(2, 2000);
        Checks.due("whatever the level is", 1001, () -> same.levelFor(0));
        Checks.due("the level stays", 2000, () -> same.value(2));
    }

    private static void levelOfFewPulses() {
        Doc.says("25", "NONE if there is none.");
        int[][] rows = {{0, 1}, {1, 2}, {19, 20}, {1022, 1023}, {1023, 1024}, {1024, 1025},
            {1998, 1999}, {1999, 2000}, {2000, -1}};
        for (int[] row : rows) {
            for (int sign = -1; sign <= 1; sign += 2) {
                DischargeRecorder x = new DischargeRecorder();
                x.record(0, 5, sign * row[0]);
                Checks.due("levelFor 0 of " + sign * row[0], row[1], () -> x.levelFor(0));
                Checks.due("levelFor 1 of " + sign * row[0], 0, () -> x.levelFor(1));
                Checks.due("levelFor 250 of " + sign * row[0], 0, () -> x.levelFor(250));
            }
        }
        Checks.due("of an empty log", 0, () -> new DischargeRecorder().levelFor(0));
        Checks.due("of an empty log, 250", 0, () -> new DischargeRecorder().levelFor(250));
        DischargeRecorder two = Checks.recorder("m5+2000;m5-2000;");
        Checks.due("two of the greatest, 0", -1, () -> two.levelFor(0));
        Checks.due("two of the greatest, 1", -1, () -> two.levelFor(1));
        Checks.due("two of the greatest, 2", 0, () -> two.levelFor(2));
    }

    private static void levelAndOtherStatuses() {
        Doc.says("25", "would be accepted.");
        DischargeRecorder x = Checks.recorder("n5+2000;m3+2000;m5+90;m5+80;i5+2000;");
        Checks.due("gated", 91, () -> x.levelFor(0));
        x.block(13, 13);
        Checks.due("gated and blocked", 81, () -> x.levelFor(0));
        x.set(4, 2);
        Checks.due("not gated", -1, () -> x.levelFor(0));
        Checks.due("not gated, 1", 81, () -> x.levelFor(1));
        x.set(3, 1);
        x.set(4, 100);
        Checks.due("all gated", 0, () -> x.levelFor(0));
        DischargeRecorder y = Checks.recorder("m5+50;n3-300;");
        y.set(3, 300);
        Checks.due("gated by one of the gate level", 0, () -> y.levelFor(0));
        y.set(3, 301);
        Checks.due("not gated by one below it", 51, () -> y.levelFor(0));
        y.set(3, 300);
        y.set(4, 2);
        Checks.due("not gated by one too far away", 51, () -> y.levelFor(0));
    }

    private static void levelAndDeadTime() {
        Doc.says("25", "the smallest level");
        DischargeRecorder x = Edge.with("m5+30;m5+90;m5+40;m5+80;m5+50;", 5, 10);
        int[] due = {91, 81, 31, 0, 0};
        for (int most = 0; most < due.length; most++) {
            int asked = most;
            Checks.due("levelFor " + most, due[most], () -> x.levelFor(asked));
        }
        for (int level = 0; level <= 100; level++) {
            int tried = level;
            int accepted = level <= 30 ? 3 : level <= 80 ? 2 : level <= 90 ? 1 : 0;
            Checks.due("accepted with " + level, accepted,
                () -> x.statusesWith(tried, 200, 3, 10, 0));
        }
    }

    private static void mostRange() {
        Doc.says("25", "`most`: 0 to 250");
        Doc.says("25", "Throws `IllegalArgumentException` if most is out of range");
        Edge.range("levelFor", 0, 250, DischargeRecorder::levelFor);
        Edge.range(Edge.State.FULL, "levelFor", 0, 250, Checks.IAE, DischargeRecorder::levelFor);
    }
}
