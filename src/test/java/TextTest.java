/** Promises 8 to 10: append, clearText, parse. */
final class TextTest {
    public static void main(String[] args) {
        append();
        clearText();
        goodTexts();
        errors();
        notRecorded();
        saves();
        Checks.end();
    }

    private static void append() {
        DischargeRecorder x = new DischargeRecorder();
        Checks.due("8: byte 0", 1, () -> x.append(0));
        Checks.due("8: byte 127", 2, () -> x.append(127));
        Checks.refused(x, "8: byte -1", Checks.IAE, () -> x.append(-1));
        Checks.refused(x, "8: byte 128", Checks.IAE, () -> x.append(128));
        for (int i = 3; i <= 150; i++) {
            Checks.due("8: length " + i, i, () -> x.append('m'));
        }
        Checks.refused(x, "8: a byte too many", Checks.ISE, () -> x.append('m'));
        Checks.refused(x, "8: one too many, out of range", Checks.IAE, () -> x.append(128));
        Checks.due("8: append is not undoable", Checks.ISE, x::undo);
        Checks.due("9: clearText of a full text", 150, x::clearText);
        Checks.due("8: from the start again", 1, () -> x.append('m'));
    }

    private static void clearText() {
        DischargeRecorder x = new DischargeRecorder();
        Checks.due("9: of no text", 0, x::clearText);
        Checks.append(x, "m1+50;");
        Checks.due("9: its length", 6, x::clearText);
        Checks.due("9: it is empty", 0, x::clearText);
        Checks.due("9: clearText is not undoable", Checks.ISE, x::undo);
        Checks.due("10: the empty text has no pulses", 0, x::parse);
    }

    private static void goodTexts() {
        DischargeRecorder x = new DischargeRecorder();
        Checks.write(x, "m5+50;n0-2000;i9999+0000;m0001-0020;");
        Checks.due("10: four pulses", 4, x::parse);
        Checks.pulsesAre(x, "10", new int[] {0, 5, 50}, new int[] {1, 5, -2000},
            new int[] {2, 10004, 0}, new int[] {0, 10005, -20});
        Checks.due("10: the text stays, and goes on behind the last pulse", 4, x::parse);
        Checks.due("10: the next time", 10010, () -> x.pulse(4, 1));
        Checks.due("10: its length", 36, x::clearText);
        x.forget(1000000);
        Checks.write(x, "m7");
        Checks.due("10: an error", -12, x::parse);
        Checks.append(x, "+1;");
        Checks.due("10: an empty log", 1, x::parse);
        Checks.due("10: starts after tick 0", 7, () -> x.pulse(0, 1));
        Checks.write(x, "m0+0;".repeat(30));
        Checks.due("10: a full text", 30, x::parse);
        Checks.due("11: all of them", 31, x::pulses);
    }

    private static void error(String text, int position) {
        DischargeRecorder x = new DischargeRecorder();
        x.record(0, 5, 50);
        Checks.write(x, text);
        long before = x.digest();
        Checks.due("10: parse of " + text, -10 - position, x::parse);
        Checks.due("10: an error changes nothing: " + text, before, x::digest);
    }

    private static void errors() {
        error("m", 1);
        error("m1", 2);
        error("m1+", 3);
        error("m1+5", 4);
        error("m1+5;m", 6);
        error("x1+5;", 0);
        error("M1+5;", 0);
        error("1+5;", 0);
        error(";", 0);
        error(" m1+5;", 0);
        error("m1+5; ", 5);
        error("m1+5;;", 5);
        error("mm1+5;", 1);
        error("m+5;", 1);
        error("m-1+5;", 1);
        error("m1;", 2);
        error("m1 +5;", 2);
        error("m1++5;", 3);
        error("m1+;", 3);
        error("m1+5m", 4);
        error("m1+5+", 4);
        error("m12345+5;", 5);
        error("m00001+5;", 5);
        error("m1+12345;", 7);
        error("m1+00005;", 7);
        error("m1+20010;", 7);
        error("m1+99999", 7);
        error("m1+2001;", 3);
        error("m1-9999;", 3);
        error("m1+2001", 3);
        error("m1+2001x", 3);
        error("m1+2001m", 3);
        error("m1234-2001;", 6);
        error("m1+5;n1-2001;x", 8);
        error("m1+2000", 7);
        error("m1+2000x", 7);
        error("m1+200x", 6);
        error("m1/5;", 2);
        error("m:+5;", 1);
        error("m1+:;", 3);
        error("m1+5\0", 4);
        error("m0+0;".repeat(29) + "m0+00", 150);
        error("m0+0;".repeat(29) + "m9999", 150);
        error("m".repeat(150), 1);
    }

    private static void notRecorded() {
        DischargeRecorder x = new DischargeRecorder();
        x.record(0, 999998, 50);
        Checks.write(x, "m1+50;m1+50;m0+50;m1+50;m1+50;");
        long before = x.digest();
        Checks.due("10: behind the last tick", -1003, x::parse);
        Checks.due("10: nothing is changed", before, x::digest);
        Checks.write(x, "m1+50;m1+50;m0+50;");
        Checks.due("10: up to the last tick", 3, x::parse);
        Checks.write(x, "m1+50;");
        Checks.due("10: the first one already", -1000, x::parse);
        Checks.write(x, "m1+50;x");
        Checks.due("10: a syntax error comes first", -16, x::parse);
        DischargeRecorder y = new DischargeRecorder();
        for (int i = 0; i < 248; i++) {
            y.record(0, i, 50);
        }
        Checks.write(y, "m1+50;m1+50;m1+50;");
        long full = y.digest();
        Checks.due("10: more than 250 pulses", -1002, y::parse);
        Checks.due("10: nothing is changed", full, y::digest);
        Checks.write(y, "m1+50;m1+50;");
        Checks.due("10: 250 pulses", 2, y::parse);
        Checks.due("10: not one more", -1000, y::parse);
        Checks.due("11: a full log", 250, y::pulses);
        y.clearText();
        Checks.due("10: no pulses into a full log", 0, y::parse);
    }

    private static void saves() {
        DischargeRecorder x = new DischargeRecorder();
        Checks.write(x, "m1+50;m1+50;");
        x.parse();
        Checks.due("10: parse is undoable, as one call", 0, x::undo);
        Checks.due("11: no pulses again", 0, x::pulses);
        Checks.due("10: the text is not undone", 12, x::clearText);
        x.parse();
        Checks.due("10: undoable without pulses too", 0, x::undo);
        Checks.write(x, "m");
        x.parse();
        Checks.due("10: an error saves nothing", Checks.ISE, x::undo);
        x.record(0, 1000000, 50);
        Checks.write(x, "m1+50;");
        x.parse();
        Checks.due("10: a pulse that cannot be recorded saves nothing", 0, x::undo);
    }
}
