/** Promises 20 and 21: bursts, burst; and the burst that pulse() tells. */
final class BurstsTest {
    public static void main(String[] args) {
        bursts();
        numbers();
        facts();
        refuses();
        Checks.end();
    }

    private static int bursts(String text, int gap) {
        DischargeRecorder x = Checks.recorder(text);
        x.set(7, gap);
        return x.bursts();
    }

    private static void bursts() {
        Checks.due("20: of an empty log", 0, () -> new DischargeRecorder().bursts());
        Checks.due("20: none accepted", 0, () -> bursts("m5+1;n5+5;i5+5;", 20));
        Checks.due("20: one pulse", 1, () -> bursts("m0+50;", 20));
        Checks.due("20: a late pulse", 1, () -> bursts("m900+50;", 20));
        Checks.due("20: of the gap", 1, () -> bursts("m5+50;m20+50;", 20));
        Checks.due("20: above the gap", 2, () -> bursts("m5+50;m21+50;", 20));
        Checks.due("20: gap 1000", 1, () -> bursts("m5+50;m1000+50;", 1000));
        Checks.due("20: gap 1000, above", 2, () -> bursts("m5+50;m1001+50;", 1000));
        Checks.due("20: longer than the gap as a whole", 1,
            () -> bursts("m5+50;m15+50;m15+50;m15+50;", 20));
        Checks.due("20: gap 0", 2, () -> bursts("m5+50;m9+50;", 0));
        Checks.due("20: only accepted ones bridge", 2, () -> bursts("m5+50;m15+9;m15+50;", 20));
        DischargeRecorder x = Checks.recorder("m5+50;m0+50;m1+50;");
        x.set(5, 0);
        x.set(7, 0);
        Checks.due("20: gap 0 at the same time", 2, x::bursts);
        Checks.due("21: two at the same time", 2, () -> x.burst(0, 0));
    }

    private static void numbers() {
        DischargeRecorder x = Checks.recorder("m5+50;m1+50;m9+50;n50+9;m1+50;m0+9;m30+50;i5+1;");
        int[] due = {0, -1, 0, -1, 1, -1, 2, -1};
        for (int i = 0; i < due.length; i++) {
            int pulse = i;
            Checks.due("20: burst of pulse " + i, due[i], () -> x.pulse(pulse, 6));
        }
        Checks.due("20: three bursts", 3, x::bursts);
        x.forget(50);
        Checks.due("20: the numbers start anew", 0, () -> x.pulse(1, 6));
        Checks.due("20: two are left", 2, x::bursts);
    }

    private static void facts() {
        DischargeRecorder x = Checks.recorder("m5+50;m10+9;m10-70;m21+30;n0+9;m2-80;m2+90;");
        long[][] due = {{2, 5, 25, 120}, {3, 46, 50, 200}};
        for (int burst = 0; burst < 2; burst++) {
            int asked = burst;
            for (int what = 0; what < 4; what++) {
                int fact = what;
                Checks.due("21: burst " + burst + " " + what, due[burst][what],
                    () -> x.burst(asked, fact));
            }
        }
        x.record(2, 60, 1000);
        Checks.due("21: the charges are those of today", 20, () -> x.burst(1, 3));
        DischargeRecorder y = Checks.heavy(100);
        for (int i = 0; i < 12; i++) {
            y.record(0, 2 * i, 2000);
        }
        Checks.due("21: a great sum", 2400000000L, () -> y.burst(0, 3));
        Checks.due("22: a great sum of an interval", 2400000000L, () -> y.interval(0, 2));
    }

    private static void refuses() {
        DischargeRecorder x = new DischargeRecorder();
        Checks.refused(x, "21: without bursts", Checks.IOOBE, () -> x.burst(0, 0));
        x.record(0, 5, 50);
        Checks.refused(x, "21: burst -1", Checks.IOOBE, () -> x.burst(-1, 0));
        Checks.refused(x, "21: burst 1", Checks.IOOBE, () -> x.burst(1, 0));
        Checks.refused(x, "21: burst 1, what 4", Checks.IOOBE, () -> x.burst(1, 4));
        Checks.refused(x, "21: what 4", Checks.IAE, () -> x.burst(0, 4));
        Checks.refused(x, "21: what -1", Checks.IAE, () -> x.burst(0, -1));
    }
}
