/** Promises 14 to 19: count, fullest, feature, asymmetry, pattern, similarity. */
final class CountsTest {
    public static void main(String[] args) {
        count();
        countRefuses();
        fullest();
        features();
        featureRefuses();
        asymmetry();
        patterns();
        patternEdges();
        similarity();
        ranges();
        Checks.end();
    }

    /** A measured pulse of 100 at each phase, a cycle each. */
    private static DischargeRecorder atPhases(int... phases) {
        DischargeRecorder x = new DischargeRecorder();
        for (int i = 0; i < phases.length; i++) {
            x.record(0, 360 * i + phases[i], 100);
        }
        return x;
    }

    private static void count() {
        DischargeRecorder x = Checks.recorder(
            "m0+20;m9-29;m1+149;m340+150;m9-2000;m1+30;n50+25;m9+5;i9+0;m9+25;");
        x.set(5, 0);
        int[][] rows = {{-1, -1, 7}, {0, -1, 3}, {1, -1, 1}, {35, -1, 2}, {2, -1, 0}, {0, 2, 2},
            {0, 3, 1}, {1, 14, 1}, {35, 15, 2}, {-1, 15, 2}, {-1, 2, 3}, {-1, 0, 0}, {7, 2, 1},
            {0, 15, 0}};
        for (int[] row : rows) {
            Checks.due("14: count " + row[0] + " " + row[1], row[2],
                () -> x.count(row[0], row[1]));
        }
        x.set(6, 1);
        Checks.due("14: step 1", 7, () -> x.count(-1, 15));
        x.set(6, 1000);
        Checks.due("14: step 1000, class 2", 1, () -> x.count(-1, 2));
        Checks.due("14: step 1000, class 0", 6, () -> x.count(-1, 0));
        x.set(0, 1);
        Checks.due("14: the shift moves a pulse on", 2, () -> x.count(1, -1));
        x.record(2, 500, 1);
        Checks.due("14: the class is one of the charge", 2, () -> x.count(-1, 5));
        Checks.due("14: of the great charges, too", 3, () -> x.count(-1, 15));
    }

    private static void countRefuses() {
        DischargeRecorder x = Checks.recorder("m5+50;");
        int[][] bad = {{-2, 0}, {36, 0}, {0, -2}, {0, 16}, {Integer.MIN_VALUE, -1},
            {-1, Integer.MAX_VALUE}};
        for (int[] row : bad) {
            Checks.refused(x, "14: count " + row[0] + " " + row[1], Checks.IAE,
                () -> x.count(row[0], row[1]));
        }
    }

    private static void fullest() {
        DischargeRecorder x = atPhases(355, 7, 100, 109, 3, 359, 100, 7);
        Checks.due("15: three in two bins, the lower one", 0, () -> x.fullest(0, 1000000));
        Checks.due("15: of the first six", 0, () -> x.fullest(0, 5 * 360 + 359));
        Checks.due("15: from the pulse at 100 on", 10, () -> x.fullest(820, 360 * 6 + 100));
        Checks.due("15: one tick", 35, () -> x.fullest(355, 355));
        Checks.due("15: beside it", -1, () -> x.fullest(356, 366));
        Checks.due("15: bin 1", 1, () -> atPhases(5, 10, 19, 20).fullest(0, 1000000));
        Checks.due("15: of an empty log", -1, () -> new DischargeRecorder().fullest(0, 1000000));
        x.set(2, 101);
        Checks.due("15: none accepted", -1, () -> x.fullest(0, 1000000));
    }

    private static void featuresAre(DischargeRecorder x, int half, int from, int to, long... due) {
        for (int what = 0; what < due.length; what++) {
            int asked = what;
            Checks.due("16: half " + half + " from " + from + " to " + to + " " + what, due[what],
                () -> x.feature(half, from, to, asked));
        }
    }

    private static void features() {
        DischargeRecorder x = new DischargeRecorder();
        x.set(2, 0);
        x.set(5, 0);
        int[][] pulses = {{0, 0, 0}, {0, 179, -100}, {1, 179, 90}, {0, 180, 50}, {0, 359, 0},
            {0, 361, -7}, {0, 540, -70}};
        for (int[] pulse : pulses) {
            x.record(pulse[0], pulse[1], pulse[2]);
        }
        featuresAre(x, 0, 0, 1000000, 3, 100, 107, 1, 0, 179);
        featuresAre(x, 1, 0, 1000000, 3, 70, 120, 2, 180, 359);
        featuresAre(x, 0, 180, 360, 0, 0, 0, 0, -1, -1);
        featuresAre(x, 0, 179, 361, 2, 100, 107, 0, 1, 179);
        featuresAre(x, 1, 181, 540, 2, 70, 70, 1, 180, 359);
        featuresAre(x, 1, 359, 359, 1, 0, 0, 1, 359, 359);
        x.set(0, 180);
        featuresAre(x, 1, 0, 1000000, 3, 100, 107, 1, 180, 359);
        DischargeRecorder y = greatCharges();
        featuresAre(y, 0, 0, 1000000, 12, 200000000, 2400000000L, 12, 0, 22);
        featuresAre(new DischargeRecorder(), 1, 0, 0, 0, 0, 0, 0, -1, -1);
    }

    /** Twelve pulses with a charge of 200000000 each. */
    private static DischargeRecorder greatCharges() {
        DischargeRecorder y = Checks.heavy(100);
        for (int i = 0; i < 12; i++) {
            y.record(0, 2 * i, 2000);
        }
        return y;
    }

    private static void featureRefuses() {
        DischargeRecorder x = Checks.recorder("m5+50;");
        int[][] bad = {{-1, 0, 9, 0}, {2, 0, 9, 0}, {0, 0, 9, -1}, {0, 0, 9, 6}, {0, -1, 9, 0},
            {0, 9, 8, 0}, {0, 0, 1000001, 0}};
        for (int[] row : bad) {
            Checks.refused(x, "16: feature " + row[0] + " " + row[1] + " " + row[2] + " " + row[3],
                Checks.IAE, () -> x.feature(row[0], row[1], row[2], row[3]));
        }
    }

    private static void asymmetry() {
        DischargeRecorder x = Checks.recorder("m10+100;m10+50;m10+50;m200-70;m400+90;");
        Checks.due("17: 80 by 200 / 3", 80.0 / (200.0 / 3.0), () -> x.asymmetry(0, 1000000));
        Checks.due("17: 70 by 50", 70.0 / 50.0, () -> x.asymmetry(11, 230));
        Checks.due("17: a pulse in each", 70.0 / 50.0, () -> x.asymmetry(21, 230));
        Checks.due("17: nothing in half 1", 0.0, () -> x.asymmetry(0, 229));
        Checks.due("17: nothing in half 0", 0.0, () -> x.asymmetry(31, 1000000));
        Checks.due("17: nothing", 0.0, () -> x.asymmetry(0, 0));
        DischargeRecorder y = new DischargeRecorder();
        y.set(2, 0);
        y.record(0, 10, 0);
        y.record(0, 200, 60);
        Checks.due("17: no charge in half 0", 0.0, () -> y.asymmetry(0, 1000000));
        y.set(0, 180);
        Checks.due("17: no charge in half 1", 0.0, () -> y.asymmetry(0, 1000000));
        y.record(0, 220, 61);
        y.record(0, 380, 100);
        Checks.due("17: both halves", 50.0 / 60.5, () -> y.asymmetry(0, 1000000));
    }

    private static void pattern(int due, int q0, int q1, int q2, int q3) {
        int[] number = {q0, q1, q2, q3};
        int[] phases = new int[q0 + q1 + q2 + q3];
        int at = 0;
        for (int quarter = 0; quarter < 4; quarter++) {
            for (int i = 0; i < number[quarter]; i++) {
                // The ends of the quarters in turn.
                phases[at] = 90 * quarter + (i % 2 == 0 ? 0 : 89);
                at++;
            }
        }
        DischargeRecorder x = atPhases(phases);
        Checks.due("18: pattern of " + q0 + " " + q1 + " " + q2 + " " + q3, due,
            () -> x.pattern(0, 1000000));
    }

    private static void patterns() {
        pattern(0, 0, 0, 0, 0);
        pattern(0, 9, 0, 0, 0);
        pattern(1, 10, 0, 0, 0);
        pattern(1, 4, 4, 1, 1);
        pattern(1, 1, 1, 4, 4);
        pattern(1, 0, 0, 0, 10);
        pattern(5, 3, 4, 2, 1);
        pattern(2, 4, 1, 3, 2);
        pattern(2, 4, 2, 3, 1);
        pattern(2, 3, 1, 4, 2);
        pattern(3, 5, 2, 2, 1);
        pattern(3, 2, 1, 5, 2);
        pattern(5, 4, 1, 2, 3);
        pattern(5, 0, 5, 0, 5);
        pattern(2, 7, 3, 7, 3);
        pattern(5, 6, 3, 7, 3);
        pattern(1, 12, 3, 2, 1);
        pattern(3, 12, 2, 3, 1);
        pattern(2, 6, 3, 5, 1);
        pattern(3, 7, 3, 5, 1);
    }

    private static void patternEdges() {
        int[] phases = new int[24];
        for (int i = 0; i < 24; i++) {
            phases[i] = i / 6 * 90 + i % 6 * 10;
        }
        Checks.due("18: 24 bins", 4, () -> atPhases(phases).pattern(0, 1000000));
        Checks.due("18: all but the last one", 5, () -> atPhases(phases).pattern(0, 23 * 360));
        int[] twice = phases.clone();
        twice[23] = twice[22];
        Checks.due("18: 23 bins", 5, () -> atPhases(twice).pattern(0, 1000000));
        DischargeRecorder x = atPhases(phases);
        Checks.due("18: ten pulses of the half 0", 1, () -> x.pattern(0, 9 * 360 + 120));
        Checks.due("18: a tick less", 0, () -> x.pattern(0, 9 * 360 + 119));
        x.set(0, 90);
        Checks.due("18: shifted by a quarter", 4, () -> x.pattern(0, 1000000));
        x.block(0, 359);
        Checks.due("18: all blocked", 0, () -> x.pattern(0, 1000000));
    }

    private static void similarity() {
        DischargeRecorder x = atPhases(0, 9, 10, 0, 10, 20);
        Checks.due("19: 6 of 9", 666, () -> x.similarity(0, 1079, 1080, 1000000));
        Checks.due("19: the other way", 666, () -> x.similarity(1080, 1000000, 0, 1079));
        Checks.due("19: 2 of 3", 666, () -> x.similarity(0, 1079, 0, 719));
        Checks.due("19: the same range", 1000, () -> x.similarity(0, 1079, 0, 1079));
        Checks.due("19: ranges that share pulses", 833, () -> x.similarity(0, 1799, 0, 1000000));
        Checks.due("19: no bin in common", 0, () -> x.similarity(0, 719, 1800, 2159));
        Checks.due("19: nothing in the first", 0, () -> x.similarity(3000, 4000, 0, 1079));
        Checks.due("19: nothing in the second", 0, () -> x.similarity(0, 1079, 3000, 4000));
        Checks.due("19: nothing in both", 0, () -> x.similarity(3000, 4000, 3000, 4000));
        Checks.due("19: only accepted pulses", 0,
            () -> Checks.recorder("m5+50;m360+9;").similarity(0, 10, 360, 370));
        int[][] bad = {{-1, 5, 0, 5}, {6, 5, 0, 5}, {0, 1000001, 0, 5}, {0, 5, -1, 5},
            {0, 5, 6, 5}, {0, 5, 0, 1000001}};
        for (int[] row : bad) {
            Checks.refused(x, "19: " + row[0] + " " + row[1] + " " + row[2] + " " + row[3],
                Checks.IAE, () -> x.similarity(row[0], row[1], row[2], row[3]));
        }
    }

    /** The ranges of times that all the methods of ranges refuse. */
    private static void ranges() {
        DischargeRecorder x = Checks.recorder("m5+50;");
        int[][] bad = {{-1, 5}, {6, 5}, {0, -1}, {0, 1000001}, {1000001, 1000001},
            {Integer.MIN_VALUE, Integer.MAX_VALUE}, {Integer.MAX_VALUE, Integer.MIN_VALUE}};
        for (int[] row : bad) {
            String what = row[0] + " " + row[1];
            Checks.refused(x, "15: fullest " + what, Checks.IAE, () -> x.fullest(row[0], row[1]));
            Checks.refused(x, "16: feature " + what, Checks.IAE,
                () -> x.feature(0, row[0], row[1], 0));
            Checks.refused(x, "17: asymmetry " + what, Checks.IAE,
                () -> x.asymmetry(row[0], row[1]));
            Checks.refused(x, "18: pattern " + what, Checks.IAE, () -> x.pattern(row[0], row[1]));
        }
        Checks.due("15: the last tick alone", -1, () -> x.fullest(1000000, 1000000));
    }
}
