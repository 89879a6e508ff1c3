/** What the tests share: checks of single calls, and the end of a test's main method. */
final class Checks {
    /** A call whose answer is checked. */
    interface Call {
        Object run();
    }

    static final String IAE = "IllegalArgumentException";
    static final String ISE = "IllegalStateException";
    static final String IOOBE = "IndexOutOfBoundsException";

    private static int done = 0;
    private static int wrong = 0;

    private Checks() {
    }

    /** The answer of a call as a text; the plain name of the exception if it throws one. */
    static String answer(Call call) {
        try {
            return String.valueOf(call.run());
        } catch (RuntimeException e) {
            return e.getClass().getSimpleName();
        }
    }

    static void due(String what, Object want, Call call) {
        done++;
        String got = answer(call);
        if (!got.equals(String.valueOf(want))) {
            wrong++;
            System.out.println(what + " answered " + got + ", due is " + want);
        }
    }

    /** The call throws the exception, and the object's digest stays as it is. */
    static void refused(DischargeRecorder x, String what, String exception, Call call) {
        long before = x.digest();
        due(what, exception, call);
        due(what + " changes nothing", before, x::digest);
    }

    /** The pulses of the log, each told by what pulse() answers for 0 and on. */
    static void pulsesAre(DischargeRecorder x, String what, int[]... rows) {
        due(what + ": pulses", rows.length, x::pulses);
        for (int i = 0; i < rows.length; i++) {
            int pulse = i;
            for (int k = 0; k < rows[i].length; k++) {
                int asked = k;
                due(what + ": pulse " + i + " " + k, rows[i][k], () -> x.pulse(pulse, asked));
            }
        }
    }

    static void append(DischargeRecorder x, String text) {
        for (int i = 0; i < text.length(); i++) {
            x.append(text.charAt(i));
        }
    }

    /** Puts another text in the place of the one that stands. */
    static void write(DischargeRecorder x, String text) {
        x.clearText();
        append(x, text);
    }

    /** A new recorder whose log holds the pulses of a text. */
    static DischargeRecorder recorder(String text) {
        DischargeRecorder x = new DischargeRecorder();
        for (String pulse : text.split("(?<=;)")) {
            write(x, pulse);
            due("parse of " + pulse, pulse.isEmpty() ? 0 : 1, x::parse);
        }
        x.clearText();
        return x;
    }

    /** A new recorder in which each measured pulse weighs 1000 times its amplitude and times n. */
    static DischargeRecorder heavy(int n) {
        DischargeRecorder x = new DischargeRecorder();
        x.set(1, 1000);
        x.record(2, 0, 1);
        for (int i = 1; i < n; i++) {
            x.record(2, 0, 0);
        }
        return x;
    }

    static void end() {
        System.out.println(done + " checks, " + wrong + " wrong");
        if (wrong != 0 || done == 0) {
            System.exit(1);
        }
    }
}
