/** The five examples of the document, as they are printed there. */
final class ExamplesTest {
    public static void main(String[] args) {
        calibrationAndGating();
        bursts();
        limitAlarm();
        blockedWindow();
        errors();
        Checks.end();
    }

    private static void calibrationAndGating() {
        DischargeRecorder x = new DischargeRecorder();
        Checks.due("1: record(2, 0, 50)", 0, () -> x.record(2, 0, 50));
        Checks.due("1: record(0, 40, 100)", 1, () -> x.record(0, 40, 100));
        Checks.due("1: pulse(1, 4)", 200, () -> x.pulse(1, 4));
        Checks.due("1: record(1, 100, 300)", 2, () -> x.record(1, 100, 300));
        Checks.due("1: record(0, 102, 90)", 3, () -> x.record(0, 102, 90));
        Checks.due("1: pulse(3, 5)", 2, () -> x.pulse(3, 5));
        Checks.due("1: set(4, 1)", 3, () -> x.set(4, 1));
        Checks.due("1: pulse(3, 5)", 0, () -> x.pulse(3, 5));
        Checks.due("1: count(4, -1)", 1, () -> x.count(4, -1));
    }

    private static void bursts() {
        DischargeRecorder x = new DischargeRecorder();
        Checks.due("2: record(0, 10, 100)", 0, () -> x.record(0, 10, 100));
        Checks.due("2: record(0, 30, 100)", 1, () -> x.record(0, 30, 100));
        Checks.due("2: record(0, 100, 100)", 2, () -> x.record(0, 100, 100));
        Checks.due("2: bursts()", 2, () -> x.bursts());
        Checks.due("2: burst(0, 0)", 2, () -> x.burst(0, 0));
        Checks.due("2: burst(1, 1)", 100, () -> x.burst(1, 1));
    }

    private static void limitAlarm() {
        DischargeRecorder x = new DischargeRecorder();
        Checks.due("3: record(0, 10, 600)", 0, () -> x.record(0, 10, 600));
        Checks.due("3: record(0, 400, 700)", 1, () -> x.record(0, 400, 700));
        Checks.due("3: firstAlarm(false)", 1, () -> x.firstAlarm(false));
        Checks.due("3: interval(1, 1)", 700, () -> x.interval(1, 1));
        Checks.due("3: set(9, 3)", 2, () -> x.set(9, 3));
        Checks.due("3: firstAlarm(false)", -1, () -> x.firstAlarm(false));
    }

    private static void blockedWindow() {
        DischargeRecorder x = new DischargeRecorder();
        Checks.due("4: record(0, 10, 100)", 0, () -> x.record(0, 10, 100));
        Checks.due("4: record(0, 20, 50)", 1, () -> x.record(0, 20, 50));
        Checks.due("4: block(355, 15)", 1, () -> x.block(355, 15));
        Checks.due("4: pulse(0, 5)", 3, () -> x.pulse(0, 5));
        Checks.due("4: levelFor(0)", 51, () -> x.levelFor(0));
        Checks.due("4: statusesWith(60, 200, 3, 2, 0)", 0,
            () -> x.statusesWith(60, 200, 3, 2, 0));
    }

    private static void errors() {
        DischargeRecorder x = new DischargeRecorder();
        Checks.due("5: append(109)", 1, () -> x.append(109));
        Checks.due("5: append(49)", 2, () -> x.append(49));
        Checks.due("5: parse()", -12, () -> x.parse());
        Checks.due("5: record(0, 0, 2001)", Checks.IAE, () -> x.record(0, 0, 2001));
        Checks.due("5: pulse(0, 0)", Checks.IOOBE, () -> x.pulse(0, 0));
        Checks.due("5: undo()", Checks.ISE, () -> x.undo());
    }
}
