import java.util.Arrays;

/** The edges of the paragraph Trend, and of promises 22 and 23. */
final class TrendEdges {
    private TrendEdges() {
    }

    static void all() {
        trendInterval();
        timesOfIntervals();
        peak();
        persistence();
        alarmLimit();
        soManyIntervals();
        growthAlarm();
        interval();
        intervalRefuses();
        firstLimitAlarm();
        firstGrowthAlarm();
    }

    /** A measured pulse of each amplitude at the start of an interval; none for -1. */
    private static DischargeRecorder peaks(int... amplitudes) {
        DischargeRecorder x = new DischargeRecorder();
        x.set(2, 0);
        for (int i = 0; i < amplitudes.length; i++) {
            if (amplitudes[i] >= 0) {
                x.record(0, 360 * i, amplitudes[i]);
            }
        }
        return x;
    }

    private static void trendInterval() {
        Doc.says("Trend", "The trend interval is 1 to 1000 cycles, initially 1.");
        Edge.setting(8, 1, 1000, 1);
    }

    /** A pulse at a time lies in an interval, and not in those beside it. */
    private static void intervalAt(int cycles, int time, int due) {
        DischargeRecorder x = Edge.at(time);
        x.set(8, cycles);
        for (int k = Math.max(0, due - 1); k <= Math.min(2777, due + 1); k++) {
            int asked = k;
            Checks.due("interval " + k + " of " + cycles + " at " + time, k == due ? 1L : 0L,
                () -> x.interval(asked, 0));
            Checks.due("peak of " + k + " of " + cycles + " at " + time, k == due ? 100L : 0L,
                () -> x.interval(asked, 1));
            Checks.due("sum of " + k + " of " + cycles + " at " + time, k == due ? 100L : 0L,
                () -> x.interval(asked, 2));
        }
        x.set(9, 1);
        x.set(10, 100);
        Checks.due("alarm of " + cycles + " at " + time, due, () -> x.firstAlarm(false));
    }

    private static void timesOfIntervals() {
        Doc.says("Trend", "the times from k * 360 * (trend interval) on, for 360 * (trend interval)"
            + " ticks.");
        int[][] rows = {{1, 0, 0}, {1, 359, 0}, {1, 360, 1}, {1, 719, 1}, {1, 720, 2},
            {1, 999359, 2775}, {1, 999360, 2776}, {1, 999719, 2776}, {1, 999720, 2777},
            {1, 1000000, 2777}, {2, 719, 0}, {2, 720, 1}, {2, 1439, 1}, {2, 1440, 2},
            {2, 1000000, 1388}, {7, 2519, 0}, {7, 2520, 1}, {999, 359639, 0}, {999, 359640, 1},
            {1000, 359999, 0}, {1000, 360000, 1}, {1000, 719999, 1}, {1000, 720000, 2},
            {1000, 1000000, 2}};
        for (int[] row : rows) {
            intervalAt(row[0], row[1], row[2]);
        }
        DischargeRecorder x = Edge.at(359);
        x.set(0, 1);
        Checks.due("an interval is one of times, not of phases", 1L, () -> x.interval(0, 0));
    }

    private static void peak() {
        Doc.says("Trend", "the greatest charge of its accepted pulses, 0 without any.");
        DischargeRecorder x = Checks.recorder("m0+50;m9-70;m9+60;n9+99;i9+98;m9+9;m315+80;m9+70;");
        int[][] rows = {{0, 71}, {1, 81}, {2, 0}};
        for (int[] row : rows) {
            Checks.due("peak of " + row[0], (long) row[1], () -> x.interval(row[0], 1));
        }
        x.block(9, 9);
        Checks.due("the greatest is blocked", 61L, () -> x.interval(0, 1));
        x.set(2, 61);
        Checks.due("all are quiet or blocked", 0L, () -> x.interval(0, 1));
        for (int time : new int[] {0, 720, 999719, 1000000}) {
            DischargeRecorder gone = Edge.at(time);
            int k = time / 360;
            Checks.due("it is there at " + time, 100L, () -> gone.interval(k, 1));
            gone.undo();
            Checks.due("it is gone from " + time, 0L, () -> gone.interval(k, 1));
        }
        Checks.due("a peak of 0", 0L, () -> peaks(0).interval(0, 1));
        Checks.due("of an empty log", 0L, () -> new DischargeRecorder().interval(0, 1));
        Checks.due("of an empty log, the last", 0L,
            () -> new DischargeRecorder().interval(2777, 1));
    }

    private static void limitAlarms(DischargeRecorder x, String due) {
        StringBuilder seen = new StringBuilder();
        for (int k = 0; k < due.length(); k++) {
            seen.append(x.interval(k, 3));
        }
        Checks.due("limit alarms with persistence " + x.value(9) + " and limit " + x.value(10), due,
            seen::toString);
        Checks.due("the first of them", due.indexOf('1'), () -> x.firstAlarm(false));
    }

    private static void persistence() {
        Doc.says("Trend", "altogether as many as the persistence (1 to 10, initially 2)");
        Edge.setting(9, 1, 10, 2);
        DischargeRecorder x = peaks(500, -1, 500, 500, -1, 500, 500, 500);
        limitAlarms(x, "000100110");
        x.set(9, 1);
        limitAlarms(x, "101101110");
        x.set(9, 3);
        limitAlarms(x, "000000010");
        x.set(9, 4);
        limitAlarms(x, "000000000");
        int[] eleven = new int[12];
        Arrays.fill(eleven, 1, 12, 600);
        DischargeRecorder y = peaks(eleven);
        y.set(9, 9);
        limitAlarms(y, "0000000001110");
        y.set(9, 10);
        limitAlarms(y, "0000000000110");
    }

    private static void alarmLimit() {
        Doc.says("Trend", "are at least the alarm limit (1 to 100000, initially 500);");
        Edge.setting(10, 1, 100000, 500);
        limitAlarms(peaks(500, 500), "010");
        limitAlarms(peaks(500, 499), "000");
        limitAlarms(peaks(499, 500), "000");
        limitAlarms(peaks(501, 500, 501), "0110");
        DischargeRecorder least = peaks(0, 1, 1, 0);
        least.set(10, 1);
        limitAlarms(least, "00100");
        least.set(10, 2);
        limitAlarms(least, "00000");
        DischargeRecorder most = new DischargeRecorder();
        most.set(1, 1000);
        most.record(2, 0, 20);
        most.record(0, 0, 2000);
        most.record(0, 360, 1999);
        most.set(9, 1);
        most.set(10, 100000);
        limitAlarms(most, "100");
        most.set(10, 99951);
        limitAlarms(most, "100");
        most.set(10, 99950);
        limitAlarms(most, "110");
    }

    private static void soManyIntervals() {
        Doc.says("Trend", "there must be so many intervals.");
        int[] twelve = new int[12];
        Arrays.fill(twelve, 700);
        DischargeRecorder x = peaks(twelve);
        for (int persistence = 1; persistence <= 10; persistence++) {
            x.set(9, persistence);
            int first = persistence - 1;
            Checks.due("just so many: " + persistence, 1L, () -> x.interval(first, 3));
            if (first > 0) {
                Checks.due("one too few: " + persistence, 0L, () -> x.interval(first - 1, 3));
                Checks.due("interval 0: " + persistence, 0L, () -> x.interval(0, 3));
            }
            Checks.due("the first of " + persistence, first, () -> x.firstAlarm(false));
        }
    }

    private static void growth(long due, int... amplitudes) {
        DischargeRecorder x = peaks(amplitudes);
        int k = amplitudes.length - 1;
        String what = "growth alarm of " + Arrays.toString(amplitudes);
        Checks.due(what, due, () -> x.interval(k, 4));
        int first = due == 1 ? k : -1;
        if (k <= 3) {
            Checks.due(what + ", the first", first, () -> x.firstAlarm(true));
        }
    }

    private static void growthAlarm() {
        Doc.says("Trend", "It has a growth alarm if k is at least 3, its peak is above 0, and three"
            + " times its peak is at least twice the sum of the peaks of the three intervals before"
            + " it.");
        growth(0, 100);
        growth(0, 0, 100);
        growth(0, 0, 0, 100);
        growth(1, 0, 0, 0, 100);
        growth(1, -1, -1, -1, 100);
        growth(0, 0, 0, 0, 0);
        growth(0, -1, -1, -1, -1);
        growth(1, 0, 0, 0, 1);
        growth(0, 1, 0, 0, 0);
        growth(1, 100, 100, 100, 200);
        growth(0, 100, 100, 100, 199);
        growth(0, 101, 100, 100, 200);
        growth(0, 100, 101, 100, 200);
        growth(0, 100, 100, 101, 200);
        growth(1, 101, 100, 100, 201);
        growth(1, 300, 0, 0, 200);
        growth(1, 0, 300, 0, 200);
        growth(1, 0, 0, 300, 200);
        growth(0, 0, 0, 301, 200);
        growth(1, 1, 0, 0, 1);
        growth(0, 1, 1, 0, 1);
        growth(1, 1, 1, 1, 2);
        growth(1, 2000, 100, 100, 100, 200);
        growth(0, 0, 100, 100, 100, 199);
        growth(1, 1000, 1000, 1000, 2000);
        growth(0, 1000, 1000, 1001, 2000);
    }

    private static void interval() {
        Doc.says("22", "Returns something about an interval of the trend.");
        Doc.says("22", "`what`: 0 the number of its accepted pulses, 1 its peak, 2 the sum of the"
            + " charges, 3 1 if it has a limit alarm, otherwise 0, 4 1 if it has a growth alarm,"
            + " otherwise 0");
        Doc.says("22", "Returns that value.");
        DischargeRecorder x = Checks.recorder(
            "m0+600;m50-70;m50+9;n50+9;m250+500;m310+600;m350+900;");
        long[][] due = {{2, 600, 670, 0, 0}, {2, 600, 1100, 1, 0}, {1, 900, 900, 1, 0}};
        for (int k = 0; k < due.length; k++) {
            for (int what = 0; what < 5; what++) {
                int number = k;
                int asked = what;
                Checks.due("interval " + k + ", " + what, due[k][what],
                    () -> x.interval(number, asked));
            }
        }
        for (int what = 0; what < 5; what++) {
            int asked = what;
            for (int k : new int[] {0, 3, 2777}) {
                Checks.due("empty interval " + k + ", " + what, 0L,
                    () -> new DischargeRecorder().interval(k, asked));
            }
            long full = new long[] {150, 200000000, 30000000000L, 1, 1}[what];
            Checks.due("greatest charges, " + what, full, () -> great().interval(3, asked));
        }
    }

    /** 150 pulses of a charge of 200000000 each, in interval 3. */
    private static DischargeRecorder great() {
        DischargeRecorder x = Checks.heavy(100);
        x.set(5, 0);
        x.set(9, 1);
        for (int i = 0; i < 150; i++) {
            x.record(0, 1080, 2000);
        }
        return x;
    }

    private static void intervalRefuses() {
        Doc.says("22", "`interval`: 0 to 2777");
        Doc.says("22", "Throws `IndexOutOfBoundsException` if interval is out of range");
        for (int what = 0; what < 5; what++) {
            int asked = what;
            Edge.range(Edge.State.FULL, "interval, what " + what + ",", 0, 2777, Checks.IOOBE,
                (x, interval) -> x.interval(interval, asked));
        }
        DischargeRecorder x = Edge.at(1000000);
        x.set(8, 1000);
        Checks.due("the last interval, behind the last tick", 0L, () -> x.interval(2777, 0));
        Checks.due("beyond it", Checks.IOOBE, () -> x.interval(2778, 0));
        Doc.says("22", "Throws `IllegalArgumentException` if what is out of range");
        Edge.range("what of interval 0", 0, 4, (y, what) -> y.interval(0, what));
        Edge.range("what of interval 2777", 0, 4, (y, what) -> y.interval(2777, what));
    }

    private static void firstLimitAlarm() {
        Doc.says("23", "Returns the first interval with an alarm.");
        Doc.says("23", "`growth`: true for growth alarms, false for limit alarms");
        DischargeRecorder both = peaks(100, 100, 100, 300, 500, 600, 700);
        Checks.due("limit", 5, () -> both.firstAlarm(false));
        Checks.due("growth", 3, () -> both.firstAlarm(true));
        Doc.says("23", "Returns the number of the interval, 0 to 2777;");
        DischargeRecorder first = peaks(500);
        first.set(9, 1);
        Checks.due("interval 0", 0, () -> first.firstAlarm(false));
        DischargeRecorder last = new DischargeRecorder();
        last.set(9, 1);
        last.record(0, 1000000, 500);
        Checks.due("interval 2777", 2777, () -> last.firstAlarm(false));
        last.set(9, 2);
        Checks.due("it is alone", -1, () -> last.firstAlarm(false));
        DischargeRecorder two = Edge.at(999719, 999720);
        two.set(5, 0);
        two.set(10, 100);
        Checks.due("interval 2777, with the one before it", 2777, () -> two.firstAlarm(false));
        Doc.says("23", "NONE if there is none.");
        DischargeRecorder none = new DischargeRecorder();
        none.set(10, 1);
        for (int persistence = 1; persistence <= 10; persistence++) {
            none.set(9, persistence);
            Checks.due("none of empty intervals, " + persistence, -1,
                () -> none.firstAlarm(false));
            Checks.due("not the last one, " + persistence, 0L, () -> none.interval(2777, 3));
        }
        DischargeRecorder lastButOne = Edge.at(999359, 999719);
        lastButOne.set(10, 100);
        Checks.due("interval 2776", 2776, () -> lastButOne.firstAlarm(false));
        Checks.due("not the empty one behind it", 0L, () -> lastButOne.interval(2777, 3));
        Checks.due("nor the one before it", 0L, () -> lastButOne.interval(2775, 3));
        Checks.due("no limit alarm of an empty log", -1,
            () -> new DischargeRecorder().firstAlarm(false));
        Checks.due("no limit alarm", -1, () -> peaks(499, 499, 600, 499).firstAlarm(false));
    }

    private static void firstGrowthAlarm() {
        Doc.says("23", "true for growth alarms");
        Checks.due("interval 3", 3, () -> peaks(0, 0, 0, 1).firstAlarm(true));
        DischargeRecorder last = Edge.at(999720);
        Checks.due("interval 2777", 2777, () -> last.firstAlarm(true));
        DischargeRecorder before = Edge.at(999719);
        Checks.due("interval 2776", 2776, () -> before.firstAlarm(true));
        Checks.due("no growth alarm of an empty log", -1,
            () -> new DischargeRecorder().firstAlarm(true));
        Checks.due("no growth alarm", -1, () -> peaks(300, 200, 100, 100).firstAlarm(true));
        Checks.due("three intervals are too few", -1, () -> peaks(1, 10, 100).firstAlarm(true));
    }
}
