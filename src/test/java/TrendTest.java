/** Promises 22 and 23: interval, firstAlarm. */
final class TrendTest {
    public static void main(String[] args) {
        facts();
        gonePulses();
        longIntervals();
        refuses();
        limitAlarms();
        growthAlarms();
        greatPeaks();
        firstAlarm();
        Checks.end();
    }

    /** A measured pulse with each charge at the start of an interval; none for 0. */
    private static DischargeRecorder peaks(int... charges) {
        DischargeRecorder x = new DischargeRecorder();
        for (int i = 0; i < charges.length; i++) {
            if (charges[i] != 0) {
                x.record(0, 360 * i, charges[i]);
            }
        }
        return x;
    }

    private static void intervalIs(DischargeRecorder x, int interval, long... due) {
        for (int what = 0; what < due.length; what++) {
            int asked = what;
            Checks.due("22: interval " + interval + " " + what, due[what],
                () -> x.interval(interval, asked));
        }
    }

    private static void facts() {
        DischargeRecorder x = Checks.recorder("m0+50;m9+9;m350-70;m1+80;m10+30;n300+5;m49-6;m1+60;");
        x.set(5, 0);
        intervalIs(x, 0, 2, 70, 120, 0, 0);
        intervalIs(x, 1, 2, 80, 110, 0, 0);
        intervalIs(x, 2, 1, 60, 60, 0, 0);
        intervalIs(x, 3, 0, 0, 0, 0, 0);
        DischargeRecorder y = new DischargeRecorder();
        y.record(0, 1000000, 50);
        intervalIs(y, 2776, 0, 0, 0);
        intervalIs(y, 2777, 1, 50, 50, 0, 1);
        intervalIs(new DischargeRecorder(), 0, 0, 0, 0, 0, 0);
        x.forget(1);
        intervalIs(x, 0, 1, 70, 70, 0, 0);
        intervalIs(x, 2, 1, 60, 60, 0, 0);
        x.forget(1000);
        intervalIs(x, 0, 0, 0, 0, 0, 0);
        intervalIs(x, 2, 0, 0, 0, 0, 0);
        x.undo();
        x.undo();
        intervalIs(x, 0, 2, 70, 120, 0, 0);
        intervalIs(x, 2, 1, 60, 60, 0, 0);
        DischargeRecorder z = new DischargeRecorder();
        z.record(0, 359, 50);
        z.record(0, 719, 60);
        z.set(0, 1);
        intervalIs(z, 0, 1, 50, 50);
        intervalIs(z, 1, 1, 60, 60);
    }

    /** A pulse that has gone from the log gives no peak, however it went. */
    private static void gonePulses() {
        DischargeRecorder x = new DischargeRecorder();
        x.record(0, 1080, 100);
        intervalIs(x, 3, 1, 100, 100, 0, 1);
        x.forget(1081);
        intervalIs(x, 3, 0, 0, 0, 0, 0);
        intervalIs(x, 0, 0, 0, 0, 0, 0);
        x.undo();
        intervalIs(x, 3, 1, 100, 100, 0, 1);
        x.undo();
        intervalIs(x, 3, 0, 0, 0, 0, 0);
        intervalIs(x, 0, 0, 0, 0, 0, 0);
    }

    private static void longIntervals() {
        DischargeRecorder x = Checks.recorder("m719+50;m1+60;m719+70;m1+80;");
        x.set(5, 0);
        intervalIs(x, 1, 1, 50, 50);
        intervalIs(x, 2, 1, 60, 60);
        x.set(8, 2);
        intervalIs(x, 0, 1, 50, 50);
        intervalIs(x, 1, 2, 70, 130);
        intervalIs(x, 2, 1, 80, 80);
        x.set(8, 1000);
        intervalIs(x, 0, 4, 80, 260);
        intervalIs(x, 2, 0, 0, 0);
        intervalIs(x, 2777, 0, 0, 0, 0, 0);
        x.record(0, 720000, 90);
        intervalIs(x, 1, 0, 0, 0);
        intervalIs(x, 2, 1, 90, 90);
    }

    private static void refuses() {
        DischargeRecorder x = peaks(50);
        for (int interval : new int[] {-1, 2778, Integer.MIN_VALUE, Integer.MAX_VALUE}) {
            Checks.refused(x, "22: interval " + interval, Checks.IOOBE,
                () -> x.interval(interval, 0));
            Checks.refused(x, "22: what 5 of interval " + interval, Checks.IOOBE,
                () -> x.interval(interval, 5));
        }
        Checks.refused(x, "22: what 5", Checks.IAE, () -> x.interval(2777, 5));
        Checks.refused(x, "22: what -1", Checks.IAE, () -> x.interval(0, -1));
    }

    private static void limitAlarms() {
        DischargeRecorder x = peaks(500, 500, 499, 500, 600, 700, 0, 800);
        int[] two = {0, 1, 0, 0, 1, 1, 0, 0};
        int[] three = {0, 0, 0, 0, 0, 1, 0, 0};
        int[] one = {1, 1, 0, 1, 1, 1, 0, 1};
        for (int k = 0; k < two.length; k++) {
            limitAlarmIs(x, 2, k, two[k]);
            limitAlarmIs(x, 3, k, three[k]);
            limitAlarmIs(x, 1, k, one[k]);
        }
        DischargeRecorder y = peaks(9, 9, 9, 9, 9, 9, 9, 9, 9, 9, 9);
        y.set(2, 1);
        y.set(10, 9);
        limitAlarmIs(y, 10, 8, 0);
        limitAlarmIs(y, 10, 9, 1);
        limitAlarmIs(y, 10, 10, 1);
        limitAlarmIs(y, 10, 11, 0);
        Checks.due("23: the tenth", 9, () -> y.firstAlarm(false));
        limitAlarmIs(y, 1, 2777, 0);
    }

    private static void limitAlarmIs(DischargeRecorder x, int persistence, int k, int due) {
        x.set(9, persistence);
        Checks.due("22: limit alarm of " + k + " with " + persistence, due,
            () -> x.interval(k, 3));
    }

    private static void growthAlarmIs(int due, int... charges) {
        DischargeRecorder x = peaks(charges);
        int k = charges.length - 1;
        StringBuilder what = new StringBuilder("22: growth alarm of");
        for (int charge : charges) {
            what.append(' ').append(charge);
        }
        Checks.due(what.toString(), due, () -> x.interval(k, 4));
    }

    private static void growthAlarms() {
        growthAlarmIs(0, 100);
        growthAlarmIs(0, 100, 200, 900);
        growthAlarmIs(1, 100, 100, 100, 200);
        growthAlarmIs(0, 100, 100, 100, 199);
        growthAlarmIs(1, 0, 0, 0, 20);
        growthAlarmIs(0, 0, 0, 0, 0);
        DischargeRecorder least = new DischargeRecorder();
        least.set(2, 0);
        least.record(0, 1080, 0);
        Checks.due("22: growth alarm of a charge of 0", 0, () -> least.interval(3, 4));
        least.record(0, 1090, 1);
        Checks.due("22: growth alarm of a charge of 1", 1, () -> least.interval(3, 4));
        growthAlarmIs(1, 300, 0, 0, 200);
        growthAlarmIs(0, 300, 0, 0, 199);
        growthAlarmIs(0, 0, 300, 0, 199);
        growthAlarmIs(0, 0, 0, 300, 199);
        growthAlarmIs(1, 2000, 0, 0, 300, 200);
        growthAlarmIs(0, 0, 151, 0, 0, 100);
        growthAlarmIs(1, 0, 150, 0, 0, 100);
    }

    /** Sums of peaks above the greatest int. */
    private static void greatPeaks() {
        DischargeRecorder x = Checks.heavy(240);
        for (int i = 0; i < 5; i++) {
            x.record(0, 360 * i, 2000);
        }
        intervalIs(x, 3, 1, 480000000, 480000000, 1, 0);
        Checks.due("23: no growth", -1, () -> x.firstAlarm(true));
        Checks.due("23: above the limit", 1, () -> x.firstAlarm(false));
    }

    private static void firstAlarm() {
        DischargeRecorder empty = new DischargeRecorder();
        Checks.due("23: limit, of an empty log", -1, () -> empty.firstAlarm(false));
        Checks.due("23: growth, of an empty log", -1, () -> empty.firstAlarm(true));
        DischargeRecorder x = peaks(600, 90, 600, 90, 600, 700, 800);
        Checks.due("23: limit", 5, () -> x.firstAlarm(false));
        Checks.due("23: growth", 4, () -> x.firstAlarm(true));
        x.set(9, 1);
        Checks.due("23: limit at once", 0, () -> x.firstAlarm(false));
        x.set(9, 4);
        Checks.due("23: too few", -1, () -> x.firstAlarm(false));
        DischargeRecorder y = new DischargeRecorder();
        y.set(5, 0);
        y.record(0, 999719, 600);
        y.record(0, 999720, 600);
        Checks.due("23: the last interval", 2777, () -> y.firstAlarm(false));
        Checks.due("23: the last but one", 2776, () -> y.firstAlarm(true));
        y.set(8, 1000);
        Checks.due("23: in a long interval", -1, () -> y.firstAlarm(false));
        y.set(9, 1);
        Checks.due("23: in a long interval, one", 2, () -> y.firstAlarm(false));
        y.set(2, 601);
        Checks.due("23: quiet pulses give no alarm", -1, () -> y.firstAlarm(false));
    }
}
