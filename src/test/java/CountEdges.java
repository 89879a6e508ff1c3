/** The edges of the paragraphs Ranges, Counts and Pattern class, and of promises 14 to 19. */
final class CountEdges {
    private CountEdges() {
    }

    static void all() {
        bothIncluded();
        timeInRange();
        phaseBin();
        chargeClass();
        step();
        half();
        quarter();
        polarity();
        count();
        fullest();
        features();
        asymmetry();
        similarity();
        rangeArguments();
    }

    /** The accepted pulses of a range, as each of the methods of ranges tells them: 0 or 1. */
    private static void inRange(DischargeRecorder x, int from, int to, boolean due) {
        String what = " from " + from + " to " + to;
        int bin = x.pulse(0, 3) / 10;
        int half = bin / 18;
        Checks.due("fullest" + what, due ? bin : -1, () -> x.fullest(from, to));
        Checks.due("feature" + what, due ? 1 : 0, () -> x.feature(half, from, to, 0));
        Checks.due("similarity" + what, due ? 1000 : 0,
            () -> x.similarity(from, to, 0, 1000000));
        Checks.due("similarity the other way" + what, due ? 1000 : 0,
            () -> x.similarity(0, 1000000, from, to));
    }

    private static void bothIncluded() {
        Doc.says("Ranges", "from one tick up to another one, both included.");
        for (int time : new int[] {0, 1, 500, 999999, 1000000}) {
            DischargeRecorder x = Edge.at(time);
            for (int from = Math.max(0, time - 2); from <= Math.min(1000000, time + 2); from++) {
                for (int to = from; to <= Math.min(1000000, time + 2); to++) {
                    inRange(x, from, to, from <= time && time <= to);
                }
            }
            inRange(x, 0, 1000000, true);
        }
        DischargeRecorder x = new DischargeRecorder();
        x.set(5, 0);
        x.record(0, 100, 60);
        x.record(0, 200, 90);
        double both = 90.0 / 60.0;
        Checks.due("asymmetry of both", both, () -> x.asymmetry(100, 200));
        Checks.due("asymmetry without the first", 0.0, () -> x.asymmetry(101, 200));
        Checks.due("asymmetry without the last", 0.0, () -> x.asymmetry(100, 199));
        for (int i = 0; i < 8; i++) {
            x.record(0, 300, 60);
        }
        Checks.due("pattern of ten", 1, () -> x.pattern(100, 300));
        Checks.due("pattern without the first", 0, () -> x.pattern(101, 300));
        Checks.due("pattern without the last", 0, () -> x.pattern(100, 299));
    }

    private static void timeInRange() {
        Doc.says("Ranges", "The accepted pulses of a range are those whose time lies in it.");
        DischargeRecorder dead = Edge.with("m5+50;m5+50;", 5, 10);
        Checks.due("dead for the whole log", -1, () -> dead.fullest(10, 10));
        DischargeRecorder gated = Checks.recorder("n5+300;m3+50;");
        Checks.due("gated by one out of the range", 0L, () -> gated.feature(0, 8, 8, 0));
        DischargeRecorder weighed = Checks.recorder("i0+50;m5+50;");
        Checks.due("weighed by one out of the range", 100L, () -> weighed.feature(0, 5, 5, 1));
        DischargeRecorder others = Checks.recorder("m5+19;n0+19;i0+50;m0+50;");
        Checks.due("only the accepted one", 1L, () -> others.feature(0, 5, 5, 0));
        DischargeRecorder same = Edge.at(5, 5, 5);
        same.set(5, 0);
        Checks.due("all of one tick", 3L, () -> same.feature(0, 5, 5, 0));
        same.set(0, 200);
        Checks.due("the time, not the phase", 3L, () -> same.feature(1, 5, 5, 0));
    }

    private static void phaseBin() {
        Doc.says("Counts", "The phase bin of a pulse is its phase / 10, rounded down (0 to 35).");
        int[][] rows = {{0, 0}, {9, 0}, {10, 1}, {19, 1}, {20, 2}, {179, 17}, {180, 18}, {349, 34},
            {350, 35}, {359, 35}, {360, 0}, {369, 0}, {370, 1}, {999719, 35}, {999720, 0},
            {1000000, 28}};
        for (int[] row : rows) {
            DischargeRecorder x = Edge.at(row[0]);
            Checks.due("bin at " + row[0], row[1], () -> x.fullest(0, 1000000));
            for (int bin = Math.max(0, row[1] - 1); bin <= Math.min(35, row[1] + 1); bin++) {
                int asked = bin;
                Checks.due("count at " + row[0], bin == row[1] ? 1 : 0, () -> x.count(asked, -1));
            }
        }
        DischargeRecorder x = Edge.at(355);
        x.set(0, 4);
        Checks.due("just before it goes round", 35, () -> x.fullest(0, 1000000));
        x.set(0, 5);
        Checks.due("round to bin 0", 0, () -> x.fullest(0, 1000000));
    }

    private static void classIs(int step, int amplitude, int due) {
        DischargeRecorder x = new DischargeRecorder();
        x.set(2, 0);
        x.set(6, step);
        x.record(0, 0, amplitude);
        for (int level = 0; level <= 15; level++) {
            int asked = level;
            Checks.due("step " + step + ", " + amplitude + ", class " + level,
                level == due ? 1 : 0, () -> x.count(0, asked));
        }
    }

    private static void chargeClass() {
        Doc.says("Counts", "Its class is its charge / step, rounded down, but at most 15;");
        int[][] rows = {{10, 0, 0}, {10, 9, 0}, {10, 10, 1}, {10, -19, 1}, {10, -20, 2},
            {10, 149, 14}, {10, 150, 15}, {10, 159, 15}, {10, 160, 15}, {10, -2000, 15},
            {1, 0, 0}, {1, 1, 1}, {1, 14, 14}, {1, 15, 15}, {1, 16, 15}, {1000, 999, 0},
            {1000, 1000, 1}, {1000, 1999, 1}, {1000, 2000, 2}, {133, 1994, 14}, {133, 1995, 15}};
        for (int[] row : rows) {
            classIs(row[0], row[1], row[2]);
        }
        DischargeRecorder x = Edge.with("i0+40;m0+59;m5+60;", 5, 0);
        Checks.due("the class is one of the charge: 147", 1, () -> x.count(-1, 14));
        Checks.due("the class is one of the charge: 150", 1, () -> x.count(-1, 15));
        DischargeRecorder y = Checks.heavy(249);
        y.record(0, 0, 2000);
        y.set(6, 1000);
        Checks.due("the greatest charge", 1, () -> y.count(-1, 15));
    }

    private static void step() {
        Doc.says("Counts", "the step is 1 to 1000, initially 10.");
        Edge.setting(6, 1, 1000, 10);
    }

    private static void half() {
        Doc.says("Counts", "Its half is 0 for a phase below 180, otherwise 1;");
        int[][] rows = {{0, 0}, {179, 0}, {180, 1}, {359, 1}, {360, 0}, {539, 0}, {540, 1}};
        for (int[] row : rows) {
            DischargeRecorder x = Edge.at(row[0]);
            Checks.due("half 0 at " + row[0], 1L - row[1], () -> x.feature(0, 0, 1000000, 0));
            Checks.due("half 1 at " + row[0], (long) row[1], () -> x.feature(1, 0, 1000000, 0));
        }
        DischargeRecorder x = Edge.at(179);
        x.set(0, 1);
        Checks.due("the shift takes it over", 1L, () -> x.feature(1, 0, 1000000, 0));
        x.set(0, 181);
        Checks.due("and round again", 1L, () -> x.feature(0, 0, 1000000, 0));
    }

    /** Three and three pulses of the halves, all of an even quarter but four of one phase. */
    private static int patternWith(int phase) {
        int[] phases = {0, 0, 0, 180, 180, 180, phase, phase, phase, phase};
        DischargeRecorder x = new DischargeRecorder();
        for (int i = 0; i < phases.length; i++) {
            x.record(0, 360 * i + phases[i], 100);
        }
        return x.pattern(0, 1000000);
    }

    private static void quarter() {
        Doc.says("Counts", "its quarter is its phase / 90, rounded down.");
        int[][] rows = {{0, 3}, {89, 3}, {90, 5}, {179, 5}, {180, 3}, {269, 3}, {270, 5}, {359, 5}};
        for (int[] row : rows) {
            Checks.due("pattern with four at " + row[0], row[1] == 3 ? 3 : 5,
                () -> patternWith(row[0]));
        }
    }

    private static void polarity() {
        Doc.says("Counts", "Its polarity is 1 for an amplitude of 0 or more, otherwise 0.");
        int[][] rows = {{-2000, 0}, {-1, 0}, {0, 1}, {1, 1}, {2000, 1}};
        for (int[] row : rows) {
            DischargeRecorder x = new DischargeRecorder();
            x.set(2, 0);
            x.record(0, 5, row[0]);
            Checks.due("polarity of " + row[0], (long) row[1],
                () -> x.feature(0, 0, 1000000, 3));
        }
    }

    private static void count() {
        Doc.says("14", "Counts the accepted pulses of a phase bin and a class.");
        Doc.says("14", "Returns the number of pulses.");
        DischargeRecorder x = Checks.recorder("m0+25;m5+35;m4+25;m1+25;n5+15;m9+9;i9+0;m325+200;");
        int[][] rows = {{0, 2, 2}, {0, 3, 1}, {1, 2, 0}, {35, 15, 1}, {35, 14, 0}, {34, 15, 0},
            {1, 1, 0}, {2, 0, 0}};
        for (int[] row : rows) {
            Checks.due("count " + row[0] + " " + row[1], row[2], () -> x.count(row[0], row[1]));
        }
        Doc.says("14", "`bin`: 0 to 35, or NONE for all");
        Doc.says("14", "`level`: class 0 to 15, or NONE for all");
        int[][] all = {{-1, 2, 2}, {-1, 3, 1}, {-1, 15, 1}, {-1, 0, 0}, {0, -1, 3}, {1, -1, 0},
            {35, -1, 1}, {-1, -1, 4}};
        for (int[] row : all) {
            Checks.due("count " + row[0] + " " + row[1], row[2], () -> x.count(row[0], row[1]));
        }
        Checks.due("of an empty log", 0, () -> new DischargeRecorder().count(-1, -1));
        Doc.says("14", "Throws `IllegalArgumentException` if bin or level is out of range");
        Edge.range("count, bin", -1, 35, (y, bin) -> y.count(bin, 0));
        Edge.range("count, level", -1, 15, (y, level) -> y.count(0, level));
        Edge.range("count, bin of all", -1, 35, (y, bin) -> y.count(bin, -1));
        Edge.range("count, level of all", -1, 15, (y, level) -> y.count(-1, level));
        Edge.refused("bin and level", Checks.IAE, y -> y.count(-2, 16));
    }

    private static void fullestIs(int due, int... numbers) {
        Checks.due("fullest of bins", due, () -> Edge.bins(numbers).fullest(0, 1000000));
    }

    private static void fullest() {
        Doc.says("15", "the phase bin with the most accepted pulses of a range, of several the"
            + " lowest one.");
        Doc.says("15", "Returns the bin;");
        fullestIs(0, 2, 2, 1);
        fullestIs(1, 1, 2, 2);
        fullestIs(2, 1, 2, 3);
        int[] last = new int[36];
        last[35] = 1;
        fullestIs(35, last);
        last[34] = 1;
        fullestIs(34, last);
        last[0] = 1;
        fullestIs(0, last);
        last[35] = 2;
        fullestIs(35, last);
        Checks.due("only the accepted ones", 2,
            () -> Checks.recorder("n5+9;i0+9;m0+9;m20+50;").fullest(0, 1000000));
        Doc.says("15", "NONE without accepted pulses.");
        Checks.due("an empty log", -1, () -> new DischargeRecorder().fullest(0, 1000000));
        Checks.due("a range without pulses", -1, () -> Edge.at(5).fullest(6, 1000000));
        Checks.due("none accepted", -1,
            () -> Checks.recorder("m5+19;n5+9;i5+50;").fullest(0, 1000000));
    }

    private static void featuresAre(DischargeRecorder x, int half, int from, int to, long... due) {
        for (int what = 0; what < due.length; what++) {
            int asked = what;
            Checks.due("feature " + half + " from " + from + " to " + to + ", " + what, due[what],
                () -> x.feature(half, from, to, asked));
        }
    }

    private static void features() {
        Doc.says("16", "Returns something about the accepted pulses of a range in a half of the");
        Doc.says("16", "`what`: 0 their number, 1 their greatest charge (0 without any), 2 the sum"
            + " of their charges, 3 how many of them have the polarity 1, 4 their lowest phase, 5"
            + " their highest phase (NONE without any)");
        Doc.says("16", "Returns that value.");
        featuresAre(new DischargeRecorder(), 0, 0, 1000000, 0, 0, 0, 0, -1, -1);
        featuresAre(new DischargeRecorder(), 1, 0, 1000000, 0, 0, 0, 0, -1, -1);
        DischargeRecorder x = Edge.with("m0+70;m179-50;m1+90;m179-60;", 5, 0);
        featuresAre(x, 0, 0, 1000000, 2, 70, 120, 1, 0, 179);
        featuresAre(x, 1, 0, 1000000, 2, 90, 150, 1, 180, 359);
        featuresAre(x, 0, 179, 180, 1, 50, 50, 0, 179, 179);
        featuresAre(x, 1, 179, 180, 1, 90, 90, 1, 180, 180);
        featuresAre(x, 0, 180, 359, 0, 0, 0, 0, -1, -1);
        featuresAre(x, 1, 0, 179, 0, 0, 0, 0, -1, -1);
        DischargeRecorder mixed = Edge.at(50, 380, 800, 1110, 230 + 1440, 190 + 1800, 300 + 2160);
        featuresAre(mixed, 0, 0, 1000000, 4, 100, 400, 4, 20, 80);
        featuresAre(mixed, 1, 0, 1000000, 3, 100, 300, 3, 190, 300);
        featuresAre(mixed, 0, 51, 1000000, 3, 100, 300, 3, 20, 80);
        DischargeRecorder zero = Edge.with("m0-0;", 2, 0);
        featuresAre(zero, 0, 0, 0, 1, 0, 0, 1, 0, 0);
        DischargeRecorder y = Checks.heavy(100);
        y.set(5, 0);
        for (int i = 0; i < 150; i++) {
            y.record(0, 270, -2000);
        }
        featuresAre(y, 1, 0, 1000000, 150, 200000000, 30000000000L, 0, 270, 270);
        Doc.says("16", "`half`: 0 or 1");
        Edge.range("feature, half", 0, 1, (z, half) -> z.feature(half, 0, 9, 0));
        Doc.says("16", "Throws `IllegalArgumentException` if an argument is out of range");
        Edge.range("feature, what", 0, 5, (z, what) -> z.feature(1, 0, 9, what));
        Edge.refused("all of them", Checks.IAE, z -> z.feature(2, 9, 8, 6));
    }

    private static void asymmetry() {
        Doc.says("17", "the mean charge of the half 1 divided by that of the half 0, both as"
            + " doubles (the sum of the charges, converted to double, divided by the number of"
            + " pulses, converted to double).");
        Doc.says("17", "Returns the asymmetry;");
        Doc.says("17", "0.0 if a half has no accepted pulses, or the sum of the charges of the half"
            + " 0 is 0.");
        DischargeRecorder x = Edge.with("m0+70;m3+50;m3+50;m174+90;m179-61;", 5, 0);
        Checks.due("of the means", (151.0 / 2.0) / (170.0 / 3.0), () -> x.asymmetry(0, 359));
        Checks.due("a pulse each", 90.0 / 50.0, () -> x.asymmetry(6, 180));
        Checks.due("half 1 is empty", 0.0, () -> x.asymmetry(0, 179));
        Checks.due("half 0 is empty", 0.0, () -> x.asymmetry(180, 359));
        Checks.due("both are empty", 0.0, () -> x.asymmetry(360, 1000000));
        Checks.due("an empty log", 0.0, () -> new DischargeRecorder().asymmetry(0, 1000000));
        DischargeRecorder none = Edge.with("m5+0;m5+0;m175+60;", 2, 0);
        Checks.due("half 0 has no charge", 0.0, () -> none.asymmetry(0, 1000000));
        none.record(0, 365, -1);
        Checks.due("half 0 has a charge of 1", 60.0 / (1.0 / 3.0),
            () -> none.asymmetry(0, 1000000));
        DischargeRecorder other = Edge.with("m5+60;m180+0;", 2, 0);
        Checks.due("half 1 has no charge", 0.0 / 60.0, () -> other.asymmetry(0, 1000000));
    }

    private static void similarity() {
        Doc.says("19", "Compares the phase bins of two ranges.");
        Doc.says("19", "S the sum over all bins of the smaller one of a * B and b * A.");
        Doc.says("19", "Returns 1000 * S / (A * B), rounded down;");
        DischargeRecorder x = Edge.at(0, 100, 359, 360, 370, 719, 1080, 1190, 1190, 2160, 2170);
        x.set(5, 0);
        int[][] rows = {{0, 359, 0, 359, 1000}, {0, 359, 360, 719, 666}, {360, 719, 0, 359, 666},
            {0, 0, 0, 359, 333}, {0, 100, 0, 359, 666}, {0, 0, 360, 360, 1000},
            {0, 0, 359, 359, 0}, {359, 359, 719, 719, 1000}, {0, 359, 1080, 1190, 333},
            {1080, 1190, 0, 0, 333}, {1190, 1190, 1080, 1190, 666}, {2160, 2170, 0, 359, 333},
            {2160, 2170, 360, 719, 666}, {2160, 2170, 1080, 1190, 333}};
        for (int[] row : rows) {
            Checks.due("similarity " + row[0] + " " + row[1] + " " + row[2] + " " + row[3], row[4],
                () -> x.similarity(row[0], row[1], row[2], row[3]));
        }
        Doc.says("19", "0 if A or B is 0.");
        Checks.due("A is 0", 0, () -> x.similarity(720, 1079, 0, 359));
        Checks.due("B is 0", 0, () -> x.similarity(0, 359, 720, 1079));
        Checks.due("both are 0", 0, () -> x.similarity(720, 1079, 720, 1079));
        Checks.due("an empty log", 0,
            () -> new DischargeRecorder().similarity(0, 1000000, 0, 1000000));
        DischargeRecorder full = new DischargeRecorder();
        full.set(5, 0);
        for (int i = 0; i < 250; i++) {
            full.record(0, 700, 100);
        }
        Checks.due("of a full log", 1000, () -> full.similarity(0, 1000000, 700, 700));
        Doc.says("19", "a and b be the numbers of accepted pulses of the first and of the second");
        full.set(2, 101);
        Checks.due("none accepted", 0, () -> full.similarity(0, 1000000, 0, 1000000));
    }

    private static void rangeOf(String what, Edge.UseOf from, Edge.UseOf to, Edge.UseOf tick) {
        Edge.range(what + ", from", 0, 500, from);
        Edge.range(what + ", to", 500, 1000000, to);
        Edge.range(what + ", a range of one tick", 0, 1000000, tick);
    }

    private static void rangeArguments() {
        for (String promise : new String[] {"15", "16", "17", "18"}) {
            Doc.says(promise, "`from`: 0 to to");
            Doc.says(promise, "`to`: from to 1000000");
        }
        for (String promise : new String[] {"15", "17", "18"}) {
            Doc.says(promise, "Throws `IllegalArgumentException` if from or to is out of range");
        }
        rangeOf("fullest", (x, from) -> x.fullest(from, 500), (x, to) -> x.fullest(500, to),
            (x, tick) -> x.fullest(tick, tick));
        for (int half = 0; half < 2; half++) {
            int asked = half;
            rangeOf("feature", (x, from) -> x.feature(asked, from, 500, 5),
                (x, to) -> x.feature(asked, 500, to, 5),
                (x, tick) -> x.feature(asked, tick, tick, 5));
        }
        rangeOf("asymmetry", (x, from) -> x.asymmetry(from, 500),
            (x, to) -> x.asymmetry(500, to), (x, tick) -> x.asymmetry(tick, tick));
        rangeOf("pattern", (x, from) -> x.pattern(from, 500), (x, to) -> x.pattern(500, to),
            (x, tick) -> x.pattern(tick, tick));
        Doc.says("19", "`from1`: 0 to to1");
        Doc.says("19", "`to1`: from1 to 1000000");
        rangeOf("similarity, 1", (x, from) -> x.similarity(from, 500, 0, 1000000),
            (x, to) -> x.similarity(500, to, 0, 1000000),
            (x, tick) -> x.similarity(tick, tick, 0, 1000000));
        Doc.says("19", "`from2`: 0 to to2");
        Doc.says("19", "`to2`: from2 to 1000000");
        Doc.says("19", "Throws `IllegalArgumentException` if an argument is out of range");
        rangeOf("similarity, 2", (x, from) -> x.similarity(0, 1000000, from, 500),
            (x, to) -> x.similarity(0, 1000000, 500, to),
            (x, tick) -> x.similarity(0, 1000000, tick, tick));
        Edge.refused("an empty first range is no reason not to look at the second", Checks.IAE,
            x -> x.similarity(0, 0, 1, 0));
        Edge.refused("all of them", Checks.IAE, x -> x.similarity(-1, 1000001, 1000001, -1));
    }
}
