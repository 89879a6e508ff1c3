/** What the document says before its description and behind its promises. */
final class OverviewEdges {
    private OverviewEdges() {
    }

    static void all() {
        whatItIs();
        mostCalls();
        asksNothing();
    }

    /** One object, and each thing of the first sentence in its order. */
    private static void whatItIs() {
        Doc.says("What it is", "a log of raw pulses of a measuring channel and of an antenna,"
            + " calibration by injected charges, gating of correlated noise, blocked phase windows"
            + " and dead time, phase-resolved counts, features of the halves of a cycle, pattern"
            + " classes, similarity of patterns, bursts, trends over intervals with alarms, and"
            + " what-if counts;");
        Doc.says("What it is", "pulses are read from a text.");
        DischargeRecorder x = new DischargeRecorder();
        int[][] log = {{2, 0, 50}, {0, 40, 100}, {1, 100, 300}, {0, 102, 90}, {0, 205, 60},
            {0, 300, 70}, {0, 301, 70}};
        for (int i = 0; i < log.length; i++) {
            int[] row = log[i];
            Checks.due("a raw pulse", i, () -> x.record(row[0], row[1], row[2]));
        }
        Checks.due("a window", 1, () -> x.block(200, 210));
        Checks.append(x, "m50-80;");
        Checks.due("read from a text", 1, x::parse);
        int[][] facts = {{2, 0, 50, 0, 100, 6, -1}, {0, 40, 100, 40, 200, 0, 0},
            {1, 100, 300, 100, 600, 5, -1}, {0, 102, 90, 102, 180, 2, -1},
            {0, 205, 60, 205, 120, 3, -1}, {0, 300, 70, 300, 140, 0, 1},
            {0, 301, 70, 301, 140, 4, -1}, {0, 351, -80, 351, 160, 0, 2}};
        Checks.pulsesAre(x, "the log", facts);
        Checks.due("a phase-resolved count", 1, () -> x.count(30, 14));
        Checks.due("a feature of a half", 300L, () -> x.feature(1, 0, 1000000, 2));
        Checks.due("a pattern class", 0, () -> x.pattern(0, 1000000));
        Checks.due("a similarity", 333, () -> x.similarity(0, 100, 0, 1000000));
        Checks.due("bursts", 3, x::bursts);
        Checks.due("a trend", 200L, () -> x.interval(0, 1));
        Checks.due("no alarm", -1, () -> x.firstAlarm(false));
        x.set(9, 1);
        x.set(10, 200);
        Checks.due("an alarm", 0, () -> x.firstAlarm(false));
        Checks.due("a what-if count", 5, () -> x.statusesWith(20, 2000, 3, 0, 0));
        Checks.due("a what-if level", 101, () -> x.levelFor(0));
    }

    private static void mostCalls() {
        Doc.says("What it is", "at most 512 calls after it has been made");
        DischargeRecorder x = new DischargeRecorder();
        for (int i = 1; i <= 510; i++) {
            int value = i % 360;
            Checks.due("call " + i, (i - 1) % 360, () -> x.set(0, value));
        }
        Checks.due("call 511", 3, x::undo);
        Checks.due("call 512", 509 % 360, () -> x.value(0));
    }

    /** Sentences that leave something free ask for no answer; FaceTest tries the signatures. */
    private static void asksNothing() {
        Doc.says("What it is", "what later calls answer is free.");
        Doc.says("The constants", "a promise each: the signature, then what it does.");
        Doc.says("Not promised", "How the state is held inside the object is free");
        Doc.says("Not promised", "Use of one object from several threads at once is not promised");
        Doc.says("Not promised", "Nothing is promised beyond the answers and state changes");
    }
}
