/** Promises 24 and 25: statusesWith, levelFor. */
final class WhatIfTest {
    public static void main(String[] args) {
        statusesWith();
        statusesWithRefuses();
        levelFor();
        levelForAndDeadTime();
        levelForRefuses();
        Checks.end();
    }

    private static void with(DischargeRecorder x, int[] settings, int... due) {
        for (int status = 0; status < due.length; status++) {
            int asked = status;
            Checks.due("24: with " + settings[0] + " " + settings[1] + " " + settings[2] + " "
                + settings[3] + ": " + status, due[status], () -> x.statusesWith(settings[0],
                settings[1], settings[2], settings[3], asked));
        }
    }

    private static void statusesWith() {
        DischargeRecorder x = Checks.recorder("m10+50;m1-30;n4+150;m1+60;m100+70;m3+10;i1+5;");
        x.block(116, 116);
        with(x, new int[] {20, 200, 3, 2}, 2, 1, 0, 1, 1, 1, 1);
        long before = x.digest();
        with(x, new int[] {20, 150, 3, 2}, 1, 1, 1, 1, 1, 1, 1);
        with(x, new int[] {20, 150, 4, 0}, 1, 1, 2, 1, 0, 1, 1);
        with(x, new int[] {0, 2000, 0, 3}, 3, 0, 0, 1, 1, 1, 1);
        with(x, new int[] {10, 2000, 0, 4}, 3, 0, 0, 1, 1, 1, 1);
        with(x, new int[] {51, 2000, 0, 1000}, 1, 3, 0, 1, 0, 1, 1);
        with(x, new int[] {2000, 1, 100, 0}, 0, 5, 0, 0, 0, 1, 1);
        with(x, new int[] {0, 1, 100, 0}, 1, 0, 3, 1, 0, 1, 1);
        Checks.due("24: nothing is changed", before, x::digest);
        Checks.due("24: nothing is set", 20, () -> x.value(2));
        with(new DischargeRecorder(), new int[] {0, 1, 0, 0}, 0, 0, 0, 0, 0, 0, 0);
    }

    private static void statusesWithRefuses() {
        DischargeRecorder x = Checks.recorder("m10+50;");
        int[] good = {0, 1, 0, 0, 0};
        int[] low = {-1, 0, -1, -1, -1};
        int[] high = {2001, 2001, 101, 1001, 7};
        int[] top = {2000, 2000, 100, 1000, 6};
        for (int i = 0; i < good.length; i++) {
            for (int bad : new int[] {low[i], high[i]}) {
                int[] row = good.clone();
                row[i] = bad;
                Checks.refused(x, "24: argument " + i + " " + bad, Checks.IAE,
                    () -> x.statusesWith(row[0], row[1], row[2], row[3], row[4]));
            }
        }
        Checks.due("24: the least", 1, () -> x.statusesWith(0, 1, 0, 0, 0));
        Checks.due("24: the greatest", 0,
            () -> x.statusesWith(top[0], top[1], top[2], top[3], top[4]));
    }

    private static void levelFor() {
        DischargeRecorder x = Checks.recorder("m9+50;m9-70;m9+70;m9+2000;m9+90;n1+300;m1+95;");
        int[][] rows = {{250, 0}, {4, 0}, {3, 51}, {2, 71}, {1, 71}, {0, -1}};
        for (int[] row : rows) {
            Checks.due("25: levelFor " + row[0], row[1], () -> x.levelFor(row[0]));
        }
        x.set(2, 1000);
        Checks.due("25: whatever the level is now", 51, () -> x.levelFor(3));
        x.block(36, 36);
        Checks.due("25: without the greatest one", 71, () -> x.levelFor(0));
        x.set(3, 301);
        Checks.due("25: without the gate", 96, () -> x.levelFor(0));
        DischargeRecorder y = Checks.recorder("m9+1999;");
        Checks.due("25: level 2000", 2000, () -> y.levelFor(0));
        Checks.due("25: of an empty log", 0, () -> new DischargeRecorder().levelFor(0));
        DischargeRecorder z = Checks.recorder("m9+0;");
        Checks.due("25: level 1", 1, () -> z.levelFor(0));
        Checks.due("25: level 0", 0, () -> z.levelFor(1));
    }

    /** A level that takes a pulse away brings those back that were dead behind it. */
    private static void levelForAndDeadTime() {
        DischargeRecorder x = Checks.recorder("m0+30;m5+90;m5+40;m5+80;m5+50;");
        x.set(5, 10);
        int[][] rows = {{3, 0}, {2, 31}, {1, 81}, {0, 91}};
        for (int[] row : rows) {
            Checks.due("25: with dead time, levelFor " + row[0], row[1], () -> x.levelFor(row[0]));
        }
        for (int level = 0; level <= 100; level++) {
            int tried = level;
            Checks.due("24: accepted with level " + level,
                level <= 30 ? 3 : level <= 80 ? 2 : level <= 90 ? 1 : 0,
                () -> x.statusesWith(tried, 200, 3, 10, 0));
        }
    }

    private static void levelForRefuses() {
        DischargeRecorder x = Checks.recorder("m9+50;");
        for (int most : new int[] {-1, 251, Integer.MIN_VALUE, Integer.MAX_VALUE}) {
            Checks.refused(x, "25: levelFor " + most, Checks.IAE, () -> x.levelFor(most));
        }
    }
}
