import java.util.Arrays;

/** The edges of the paragraph Pattern class of a range, and of promise 18. */
final class PatternEdges {
    private static final String PLACE = "Pattern class of a range";

    private PatternEdges() {
    }

    static void all() {
        nothing();
        oneSided();
        symmetric();
        asymmetric();
        scattered();
        unclear();
        firstThatApplies();
        pattern();
    }

    /** The class of a log with so many pulses in each quarter, all at the phases of one bin. */
    private static void quarters(int due, int q0, int q1, int q2, int q3) {
        int[] bins = new int[36];
        bins[4] = q0;
        bins[17] = q1;
        bins[18] = q2;
        bins[35] = q3;
        bins(due, bins);
    }

    private static void bins(int due, int... bins) {
        Checks.due("pattern of " + Arrays.toString(bins), due,
            () -> Edge.bins(bins).pattern(0, 1000000));
    }

    private static void nothing() {
        Doc.says(PLACE, "0 nothing: N is less than 10;");
        bins(0);
        quarters(0, 1, 0, 0, 0);
        quarters(0, 9, 0, 0, 0);
        quarters(1, 10, 0, 0, 0);
        quarters(0, 5, 0, 4, 0);
        quarters(2, 5, 0, 5, 0);
        quarters(0, 2, 2, 2, 3);
        quarters(5, 2, 3, 2, 3);
        DischargeRecorder x = Edge.bins(9, 0, 1);
        Checks.due("ten accepted ones", 1, () -> x.pattern(0, 1000000));
        x.block(20, 20);
        Checks.due("nine accepted ones", 0, () -> x.pattern(0, 1000000));
    }

    private static void oneSided() {
        Doc.says(PLACE, "1 one-sided: the greater one of H0 and H1 times 10 is at least 8 * N;");
        quarters(1, 4, 4, 2, 0);
        quarters(5, 3, 4, 2, 1);
        quarters(1, 0, 2, 4, 4);
        quarters(5, 1, 2, 3, 4);
        quarters(1, 0, 9, 1, 1);
        quarters(5, 0, 8, 1, 2);
        quarters(1, 1, 1, 0, 9);
        quarters(5, 1, 2, 0, 8);
        quarters(1, 0, 12, 0, 3);
        quarters(5, 0, 11, 0, 4);
        quarters(1, 0, 0, 0, 250);
        quarters(1, 100, 100, 25, 25);
        quarters(5, 100, 99, 25, 26);
        quarters(1, 25, 25, 100, 100);
        quarters(5, 26, 25, 99, 100);
    }

    private static void symmetric() {
        Doc.says(PLACE, "2 symmetric: (Q0 + Q2) * 10 is at least 7 * N, and |H0 - H1| * 5 is at"
            + " most N;");
        quarters(2, 4, 1, 3, 2);
        quarters(5, 4, 1, 2, 3);
        quarters(2, 3, 2, 4, 1);
        quarters(5, 2, 3, 4, 1);
        // Differences of just a fifth of all, and beyond it.
        quarters(2, 5, 1, 4, 0);
        quarters(3, 6, 1, 3, 0);
        quarters(2, 4, 0, 5, 1);
        quarters(3, 3, 0, 6, 1);
        quarters(2, 8, 1, 6, 0);
        quarters(3, 9, 1, 5, 0);
        quarters(2, 6, 0, 8, 1);
        quarters(3, 5, 0, 9, 1);
        quarters(2, 7, 0, 7, 0);
        quarters(2, 6, 0, 5, 0);
        quarters(3, 7, 0, 4, 0);
        // 7.7 of eleven, and 8.4 of twelve.
        quarters(2, 4, 2, 4, 1);
        quarters(5, 4, 2, 3, 2);
        quarters(2, 5, 1, 4, 2);
        quarters(5, 4, 2, 4, 2);
        quarters(2, 100, 25, 75, 50);
        quarters(5, 100, 25, 74, 51);
        quarters(2, 150, 0, 100, 0);
        quarters(3, 151, 0, 99, 0);
    }

    private static void asymmetric() {
        Doc.says(PLACE, "3 asymmetric: (Q0 + Q2) * 10 is at least 7 * N;");
        quarters(3, 7, 0, 0, 3);
        quarters(5, 6, 1, 0, 3);
        quarters(3, 0, 3, 7, 0);
        quarters(5, 0, 3, 6, 1);
        quarters(3, 6, 1, 2, 2);
        quarters(5, 6, 1, 1, 3);
        quarters(3, 175, 0, 0, 75);
        quarters(5, 174, 0, 0, 76);
    }

    /** One pulse in each of the first bins of each quarter, so many in all. */
    private static int[] spread(int number) {
        int[] bins = new int[36];
        for (int i = 0; i < number; i++) {
            bins[i % 4 * 9 + i / 4] = 1;
        }
        return bins;
    }

    private static void scattered() {
        Doc.says(PLACE, "4 scattered: at least 24 phase bins have an accepted pulse of the range;");
        bins(5, spread(23));
        bins(4, spread(24));
        bins(4, spread(25));
        bins(4, spread(36));
        int[] ends = spread(36);
        Arrays.fill(ends, 1, 13, 0);
        bins(5, Arrays.copyOf(ends, 35));
        ends[17] += 3;
        bins(4, ends);
        DischargeRecorder x = Edge.bins(spread(24));
        Checks.due("a range without the last", 5, () -> x.pattern(0, 23 * 360 - 1));
        Checks.due("a range without the first", 5, () -> x.pattern(1, 1000000));
        x.block(0, 9);
        Checks.due("a bin is blocked", 5, () -> x.pattern(0, 1000000));
    }

    private static void unclear() {
        Doc.says(PLACE, "otherwise 5 unclear.");
        quarters(5, 0, 5, 0, 5);
        quarters(5, 3, 2, 3, 2);
        bins(5, spread(10));
    }

    private static void firstThatApplies() {
        Doc.says(PLACE, "The class is the first of these that applies");
        quarters(0, 9, 0, 0, 0);
        quarters(1, 8, 0, 2, 0);
        quarters(1, 0, 0, 10, 0);
        // All bins of the halves' first quarters, and three of each other one: 24 bins.
        int[] bins = new int[36];
        for (int i = 0; i < 9; i++) {
            bins[i] = 1;
            bins[18 + i] = 1;
            bins[9 + i] = i < 3 ? 1 : 0;
            bins[27 + i] = i < 3 ? 1 : 0;
        }
        bins(2, bins);
        bins[0] = 12;
        bins(3, bins);
        int[] oneSided = new int[36];
        Arrays.fill(oneSided, 0, 18, 2);
        Arrays.fill(oneSided, 18, 27, 1);
        bins(1, oneSided);
        oneSided[27] = 1;
        bins(4, oneSided);
    }

    private static void pattern() {
        Doc.says("18", "Returns the pattern class of a range.");
        Doc.says("18", "Returns 0 to 5.");
        Doc.says(PLACE, "N be the number of accepted pulses of the range, H0 and H1 those of the"
            + " halves, and Q0 to Q3 those of the quarters.");
        Checks.due("of an empty log", 0, () -> new DischargeRecorder().pattern(0, 1000000));
        DischargeRecorder x = Edge.bins(5, 0, 0, 0, 0, 0, 0, 0, 0, 0, 0, 0, 0, 0, 0, 0, 0, 0, 5);
        Checks.due("symmetric", 2, () -> x.pattern(0, 1000000));
        Checks.due("nine of them, from a later tick", 0, () -> x.pattern(1, 1000000));
        Checks.due("ten, to the last one's tick", 2, () -> x.pattern(0, 9 * 360 + 184));
        Checks.due("nine, to the tick before it", 0, () -> x.pattern(0, 9 * 360 + 183));
        x.set(0, 90);
        Checks.due("turned by a quarter", 5, () -> x.pattern(0, 1000000));
        x.set(0, 180);
        Checks.due("turned by a half", 2, () -> x.pattern(0, 1000000));
        x.set(0, 176);
        Checks.due("nine in the half 1 and one in the half 0", 1, () -> turned().pattern(0, 4000));
    }

    private static DischargeRecorder turned() {
        DischargeRecorder x = Edge.bins(9, 0, 0, 0, 0, 0, 0, 0, 0, 0, 0, 0, 0, 0, 0, 0, 0, 0, 1);
        x.set(0, 180);
        return x;
    }
}
