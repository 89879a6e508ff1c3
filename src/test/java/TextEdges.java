/** The edges of the paragraph Pulse text, and of promises 8 to 10. */
final class TextEdges {
    private static final String PLACE = "Pulse text";

    private TextEdges() {
    }

    static void all() {
        mostBytes();
        eachByteInEachPlace();
        ticksAfterThePulseBefore();
        digitsOfTicks();
        signs();
        digitsOfAmplitudes();
        semicolon();
        spaces();
        noPulses();
        endsTooEarly();
        firstByteThatCannotStand();
        aboveGreatestAmplitude();
        append();
        clearText();
        parse();
        notRecorded();
        undoableIfAllAreRecorded();
    }

    private static void parsed(int due, String text) {
        DischargeRecorder x = new DischargeRecorder();
        Checks.append(x, text);
        Checks.due("parse of \"" + text + "\"", due, x::parse);
    }

    private static void error(int position, String text) {
        parsed(-10 - position, text);
    }

    /** The only pulse of a text, by its kind, its time and its amplitude. */
    private static void pulse(String text, int... due) {
        DischargeRecorder x = new DischargeRecorder();
        Checks.append(x, text);
        Checks.due("parse of \"" + text + "\"", 1, x::parse);
        Checks.pulsesAre(x, text, due);
    }

    private static void mostBytes() {
        Doc.says(PLACE, "The text has at most 150 bytes.");
        DischargeRecorder x = new DischargeRecorder();
        String text = "m0+0;".repeat(29) + "m9-2;";
        Checks.append(x, text.substring(0, 149));
        Checks.due("149 bytes", -10 - 149, x::parse);
        Checks.due("150 bytes", 150, () -> x.append(';'));
        Checks.due("thirty pulses", 30, x::parse);
        Checks.due("a byte more", Checks.ISE, () -> x.append('m'));
        Checks.due("the same text still", 30, x::parse);
        Checks.pulsesAre(x, "the log", rows());
        parsed(25, "i9-99;".repeat(25));
        error(150, "m0+0;".repeat(28) + "m9999+2000");
        error(146, "m0+0;".repeat(28) + "m9999+2001");
    }

    private static int[][] rows() {
        int[][] rows = new int[60][];
        for (int i = 0; i < 60; i++) {
            rows[i] = i % 30 == 29 ? new int[] {0, 9 * (i / 30 + 1), -2}
                : new int[] {0, 9 * (i / 30), 0};
        }
        return rows;
    }

    /** After each beginning, all of the 128 bytes: those that can stand there, and all others. */
    private static void eachByteInEachPlace() {
        Doc.says(PLACE, "It is a sequence of pulses: \"m\" (measured), \"n\" (antenna) or \"i\"");
        Doc.says(PLACE, "the index of the first byte that cannot stand where it stands");
        String digits = "0123456789";
        String[][] places = {{"", "mni"}, {"m1+5;", "mni"}, {"n1-5;i2+6;", "mni"},
            {"m", digits}, {"n", digits}, {"i", digits}, {"m1", digits + "+-"},
            {"m12", digits + "+-"}, {"m123", digits + "+-"}, {"m1234", "+-"}, {"m0000", "+-"},
            {"m1+", digits}, {"m1-", digits}, {"n9999-", digits}, {"m1+0", digits + ";"},
            {"m1-5", digits + ";"}, {"m1+12", digits + ";"}, {"m1+199", digits + ";"},
            {"m1+1234", ";"}, {"m1-2000", ";"}, {"i1+0000", ";"}, {"m1+5;m", digits},
            {"m1+5;n12", digits + "+-"}, {"m1+5;i12-", digits}, {"m1+5;n0+1", digits + ";"}};
        for (String[] place : places) {
            for (int value = 0; value < 128; value++) {
                int length = place[0].length();
                boolean fits = place[1].indexOf(value) >= 0;
                String text = place[0] + (char) value;
                int whole = (int) text.chars().filter(c -> c == ';').count();
                parsed(!fits ? -10 - length : value == ';' ? whole : -10 - length - 1, text);
            }
        }
    }

    private static void ticksAfterThePulseBefore() {
        Doc.says(PLACE, "the number of ticks after the pulse before it in the log (after tick 0 for"
            + " the first pulse of an empty log)");
        DischargeRecorder x = new DischargeRecorder();
        Checks.append(x, "m7+50;n0+60;i8-70;");
        x.parse();
        Checks.pulsesAre(x, "after tick 0", new int[] {0, 7, 50}, new int[] {1, 7, 60},
            new int[] {2, 15, -70});
        x.parse();
        Checks.due("after the last pulse of the log", 22, () -> x.pulse(3, 1));
        Checks.due("and on", 30, () -> x.pulse(5, 1));
        x.undo();
        x.record(1, 500, 9);
        x.parse();
        Checks.due("after a recorded pulse", 507, () -> x.pulse(4, 1));
        x.forget(500);
        x.parse();
        Checks.due("after one that is left", 522, () -> x.pulse(4, 1));
        x.forget(1000000);
        x.parse();
        Checks.due("after tick 0 once more", 7, () -> x.pulse(0, 1));
    }

    private static void digitsOfTicks() {
        Doc.says(PLACE, "one to four digits;");
        String[] good = {"0", "9", "00", "09", "99", "000", "099", "999", "0000", "0999", "1000",
            "9999"};
        for (String ticks : good) {
            pulse("m" + ticks + "+50;", 0, Integer.parseInt(ticks), 50);
        }
        error(1, "m+50;");
        error(5, "m00000+50;");
        error(5, "m12345+50;");
        error(5, "m99999");
        error(11, "m1+50;n00000+50;");
        DischargeRecorder x = new DischargeRecorder();
        Checks.append(x, "m9999+9;".repeat(18));
        x.parse();
        Checks.due("far on", 18 * 9999, () -> x.pulse(17, 1));
    }

    private static void signs() {
        Doc.says(PLACE, "a plus or a minus sign;");
        pulse("m1+5;", 0, 1, 5);
        pulse("m1-5;", 0, 1, -5);
        pulse("n1-0;", 1, 1, 0);
        error(3, "m15;");
        error(2, "m1;");
        error(2, "m1");
        error(3, "m1+-5;");
        error(3, "m1--5;");
        error(0, "-1+5;");
        error(1, "m-1+5;");
        error(4, "m1+5-;");
        DischargeRecorder x = Checks.recorder("m1-0;");
        x.set(2, 0);
        Checks.due("minus 0 has the polarity 1", 1L, () -> x.feature(0, 0, 9, 3));
    }

    private static void digitsOfAmplitudes() {
        Doc.says(PLACE, "the absolute value of the amplitude, one to four digits;");
        String[] good = {"0", "9", "00", "09", "99", "000", "099", "999", "0000", "0999", "1000",
            "1999", "2000"};
        for (String amplitude : good) {
            int due = Integer.parseInt(amplitude);
            pulse("i1+" + amplitude + ";", 2, 1, due);
            pulse("i1-" + amplitude + ";", 2, 1, -due);
        }
        error(3, "m1+;");
        error(7, "m1+00000;");
        error(7, "m1+12345;");
        error(7, "m1-20000;");
        error(12, "m1+5;n1-00000;");
    }

    private static void semicolon() {
        Doc.says(PLACE, "and a semicolon.");
        parsed(1, "m1+5;");
        error(4, "m1+5");
        error(4, "m1+5:");
        error(4, "m1+5m1+5;");
        error(5, "m1+5;;");
        error(0, ";");
        error(0, ";m1+5;");
        parsed(2, "m1+5;m1+5;");
        error(9, "m1+5;m1+5");
    }

    private static void spaces() {
        Doc.says(PLACE, "There are no spaces;");
        String good = "m12+345;n6-7;i0+2000;";
        parsed(3, good);
        for (int i = 0; i <= good.length(); i++) {
            for (String space : new String[] {" ", "\t", "\n", "\r"}) {
                error(i, good.substring(0, i) + space + good.substring(i));
            }
        }
        error(0, " ");
    }

    private static void noPulses() {
        Doc.says(PLACE, "there can be no pulses.");
        parsed(0, "");
        Checks.due("into a full log", 0, () -> {
            DischargeRecorder x = Edge.State.FULL.make();
            x.clearText();
            return x.parse();
        });
    }

    private static void endsTooEarly() {
        Doc.says(PLACE, "or the length of the text if the text ends too early.");
        String good = "m1+5;n1234-2000;i0000+0000;m9-1999;";
        for (int length = 0; length <= good.length(); length++) {
            String text = good.substring(0, length);
            int whole = (int) text.chars().filter(c -> c == ';').count();
            boolean ends = text.isEmpty() || text.endsWith(";");
            parsed(ends ? whole : -10 - length, text);
        }
    }

    private static void firstByteThatCannotStand() {
        Doc.says(PLACE, "that cannot stand where it stands (a fifth digit, too)");
        error(0, "xm1+5;x");
        error(2, "m1x5;m+;");
        error(6, "m1+5;m+1;");
        error(1, "m!1+2001;");
        error(5, "m12345+2001;");
        error(7, "m1+00001");
        error(149, "m0+0;".repeat(29) + "m1+5x");
        error(145, "m0+0;".repeat(29) + "xm1+5");
        error(1, "m".repeat(150));
        error(5, "m" + "9".repeat(149));
    }

    private static void aboveGreatestAmplitude() {
        Doc.says(PLACE, "For an amplitude above 2000 it is the index of its first digit, found when"
            + " the number is complete, that is, when a byte that is no digit, or the end of the"
            + " text, follows it.");
        for (String sign : new String[] {"+", "-"}) {
            parsed(1, "m1" + sign + "2000;");
            for (int amplitude : new int[] {2001, 2002, 2010, 2100, 3000, 9999}) {
                String text = "m1" + sign + amplitude;
                error(3, text + ";");
                error(3, text);
                for (int value = 0; value < 128; value++) {
                    boolean digit = value >= '0' && value <= '9';
                    error(digit ? 7 : 3, text + (char) value);
                }
            }
            error(7, "m1" + sign + "2000");
            error(7, "m1" + sign + "2000x");
            error(7, "m1" + sign + "20000");
            error(6, "m1" + sign + "200x");
            error(7, "m1" + sign + "02001;");
        }
        error(6, "m1234+2001;");
        error(8, "m1+5;m1+2001;m");
        error(3, "m1+2001;m1+2002;");
        error(3, "m1+2001;x");
        error(8, "m1+5;n1-9999");
        error(1, "mm1+2001;");
    }

    private static void append() {
        Doc.says("8", "Appends a byte to the pulse text.");
        Doc.says("8", "Returns the new length of the text.");
        DischargeRecorder x = new DischargeRecorder();
        for (int i = 1; i <= 150; i++) {
            int value = i % 128;
            int due = i;
            Checks.due("byte " + i, due, () -> x.append(value));
        }
        Doc.says("8", "Throws `IllegalStateException` if the text has 150 bytes");
        Edge.taken(Edge.State.RICH, "a byte into a short text", y -> y.append('m'));
        for (int value : new int[] {0, 'm', 127}) {
            Checks.due("one too many", Checks.ISE, () -> x.append(value));
            Edge.refusedIn(Edge.State.FULL, "byte 151", Checks.ISE, y -> y.append(value));
        }
        Checks.due("still 150", 150, x::clearText);
        Checks.due("room again", 1, () -> x.append(0));
        Doc.says("8", "`value`: the byte, 0 to 127");
        Doc.says("8", "Throws `IllegalArgumentException` if value is out of range");
        Edge.range("append", 0, 127, DischargeRecorder::append);
        Edge.range(Edge.State.RICH, "append", 0, 127, Checks.IAE, DischargeRecorder::append);
        for (int value : new int[] {128, 255, 256 + 'm', -128 + 'm', 65536 + 'm'}) {
            Edge.refused("append " + value, Checks.IAE, y -> y.append(value));
        }
    }

    private static void clearText() {
        Doc.says("9", "Empties the pulse text.");
        Doc.says("9", "Returns the length that it had.");
        DischargeRecorder x = new DischargeRecorder();
        for (int length : new int[] {0, 1, 149, 150, 0, 7}) {
            Checks.append(x, "m".repeat(length));
            Checks.due("length " + length, length, x::clearText);
            Checks.due("it is empty", 0, x::clearText);
            Checks.due("no pulses in it", 0, x::parse);
        }
        Checks.append(x, "m1+5;");
        Checks.due("nothing of the old text", 1, x::parse);
        String old = "m1+5;n12-345;";
        for (int length = 0; length <= old.length(); length++) {
            DischargeRecorder y = new DischargeRecorder();
            Checks.append(y, old);
            Checks.write(y, old.substring(0, length));
            int due = length == 0 ? 0 : length == 5 ? 1 : length == 13 ? 2 : -10 - length;
            Checks.due("no byte of the old text behind " + length, due, y::parse);
        }
    }

    private static void parse() {
        Doc.says("10", "Records the pulses of the text.");
        Doc.says("10", "Returns the number of pulses of the text;");
        for (int number = 0; number <= 30; number++) {
            DischargeRecorder x = new DischargeRecorder();
            int due = number;
            Checks.append(x, "i0-7;".repeat(number));
            Checks.due("so many", due, x::parse);
            Checks.due("in the log", due, x::pulses);
        }
        Doc.says("10", "-10 minus the syntax error position if there is a syntax error;");
        error(0, "x");
        error(1, "m");
        error(150, "m0+0;".repeat(29) + "m00+0");
        Checks.due("the position, whatever cannot be recorded", -10 - 149, () -> {
            DischargeRecorder x = Edge.State.FULL.make();
            x.clearText();
            Checks.append(x, "m0+0;".repeat(29) + "m0+0x");
            return x.parse();
        });
        Doc.says("10", "The text stays as it is.");
        for (String text : new String[] {"", "m1+5;", "m1+5;x", "m1+5;m"}) {
            DischargeRecorder x = new DischargeRecorder();
            Checks.append(x, text);
            int first = x.parse();
            Checks.due("parse of " + text + " again", first, x::parse);
            Checks.due("the length of " + text, text.length(), x::clearText);
        }
    }

    private static DischargeRecorder filled(int pulses, int time, String text) {
        DischargeRecorder x = new DischargeRecorder();
        for (int i = 0; i < pulses; i++) {
            x.record(i % 3, time, 100);
        }
        Checks.append(x, text);
        return x;
    }

    /** The pulses of the text cannot be recorded, and nothing is changed by it. */
    private static void notRecorded(int first, int pulses, int time, String text) {
        String what = text + " behind " + pulses + " pulses at " + time;
        DischargeRecorder x = filled(pulses, time, text);
        Checks.due(what, -1000 - first, x::parse);
        Checks.due("unchanged: " + what, Edge.trace(filled(pulses, time, text)),
            () -> Edge.trace(x));
    }

    private static void recorded(int number, int pulses, int time, String text) {
        DischargeRecorder x = filled(pulses, time, text);
        Checks.due(text + " behind " + pulses + " pulses at " + time, number, x::parse);
        Checks.due("pulses then", pulses + number, x::pulses);
    }

    private static void notRecorded() {
        Doc.says("10", "If one of them cannot be recorded (its time would be above 1000000, or"
            + " there are 250 pulses), nothing is changed.");
        Doc.says("10", "-1000 minus the index of the first pulse (from 0) that cannot be");
        recorded(1, 1, 999999, "m1+50;");
        notRecorded(0, 1, 999999, "m2+50;");
        recorded(1, 1, 1000000, "m0+50;");
        notRecorded(0, 1, 1000000, "m1+50;");
        recorded(3, 1, 999998, "m1+50;m1+50;m0+50;");
        notRecorded(2, 1, 999998, "m1+50;m1+50;m1+50;");
        notRecorded(1, 1, 999998, "m1+50;m2+50;m0+50;");
        notRecorded(0, 1, 990002, "i9999+0;");
        recorded(1, 1, 990001, "i9999+0;");
        recorded(1, 249, 7, "m1+50;");
        notRecorded(1, 249, 7, "m1+50;m1+50;");
        notRecorded(0, 250, 7, "m1+50;");
        notRecorded(0, 250, 7, "n0+0;".repeat(30));
        recorded(0, 250, 7, "");
        recorded(30, 220, 7, "m1+5;".repeat(30));
        notRecorded(29, 221, 7, "m1+5;".repeat(30));
        notRecorded(1, 248, 999999, "m1+50;m1+50;m1+50;");
        notRecorded(1, 249, 999999, "m1+50;m0+50;m1+50;");
        notRecorded(2, 248, 999999, "m1+50;m0+50;m0+50;");
    }

    private static void undoableIfAllAreRecorded() {
        Doc.says("10", "Undoable, if all are recorded.");
        for (String text : new String[] {"m1+50;m1+60;", "m1+50;", ""}) {
            DischargeRecorder x = new DischargeRecorder();
            Checks.append(x, text);
            Checks.due("parse of " + text, text.length() / 6, x::parse);
            Checks.due("undone", 0, x::undo);
            Checks.due("no pulse is left", 0, x::pulses);
            Checks.due("it was one call", Checks.ISE, x::undo);
        }
        for (String text : new String[] {"x", "m1+50;x", "m1+2001;", "m"}) {
            DischargeRecorder x = new DischargeRecorder();
            Checks.append(x, text);
            x.parse();
            Checks.due("no state is saved by " + text, Checks.ISE, x::undo);
        }
        DischargeRecorder x = filled(1, 999999, "m1+50;m1+50;");
        Checks.due("not all of them", -1001, x::parse);
        Checks.due("the state before record", 0, x::undo);
        Checks.due("and no other", Checks.ISE, x::undo);
    }
}
