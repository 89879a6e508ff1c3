/** The edges of the paragraph Bursts, and of promises 20 and 21. */
final class BurstEdges {
    private BurstEdges() {
    }

    static void all() {
        burstGap();
        amongTheAccepted();
        exactlyOne();
        numbered();
        bursts();
        burst();
        burstRefuses();
    }

    private static void burstGap() {
        Doc.says("Bursts", "each of which comes at most the burst gap (0 to 1000 ticks, initially"
            + " 20) after the one before it.");
        Edge.setting(7, 0, 1000, 20);
        for (int gap : new int[] {0, 1, 20, 999, 1000}) {
            for (int apart = Math.max(0, gap - 1); apart <= gap + 1; apart++) {
                for (int start : new int[] {0, 5, 2000}) {
                    DischargeRecorder x = Edge.at(start, start + apart);
                    x.set(5, 0);
                    x.set(7, gap);
                    int due = apart <= gap ? 1 : 2;
                    String what = apart + " apart at " + start + " with gap " + gap;
                    Checks.due("bursts, " + what, due, x::bursts);
                    Checks.due("the first one, " + what, 0, () -> x.pulse(0, 6));
                    Checks.due("the second one, " + what, due - 1, () -> x.pulse(1, 6));
                }
            }
        }
        Checks.due("20 apart", 1, () -> Edge.at(100, 120).bursts());
        Checks.due("21 apart", 2, () -> Edge.at(100, 121).bursts());
        DischargeRecorder last = Edge.at(999980, 1000000);
        Checks.due("at the last tick", 1, last::bursts);
    }

    private static void amongTheAccepted() {
        Doc.says("Bursts", "A burst is a longest sequence of accepted pulses, one after the other"
            + " among the accepted ones");
        Checks.due("a chain", 1, () -> Edge.at(0, 20, 40, 60, 80).bursts());
        Checks.due("a chain with a gap", 2, () -> Edge.at(0, 20, 41, 61, 81).bursts());
        String[] between = {"m15+19;", "n15+9;", "i15+9;"};
        for (String other : between) {
            DischargeRecorder x = Checks.recorder("m5+50;" + other + "m5+50;");
            Checks.due(other + " does not part", 1, x::bursts);
            DischargeRecorder y = Checks.recorder("m5+50;" + other + "m6+50;");
            Checks.due(other + " does not join", 2, y::bursts);
        }
        DischargeRecorder blocked = Edge.at(0, 20, 40);
        blocked.block(20, 20);
        Checks.due("a blocked one does not join", 2, blocked::bursts);
        blocked.undo();
        Checks.due("not blocked it does", 1, blocked::bursts);
        DischargeRecorder dead = Edge.at(0, 15, 30);
        dead.set(5, 16);
        Checks.due("a dead one does not join", 2, dead::bursts);
    }

    private static void exactlyOne() {
        Doc.says("Bursts", "Each accepted pulse belongs to exactly one burst.");
        DischargeRecorder x = Edge.at(0, 0, 1, 2, 20, 22, 43, 64, 84, 200, 1000000);
        int[] due = {0, -1, -1, 0, 0, 0, 1, 2, 2, 3, 4};
        long[] sizes = {4, 1, 2, 1, 1};
        for (int i = 0; i < due.length; i++) {
            int pulse = i;
            Checks.due("the burst of " + i, due[i], () -> x.pulse(pulse, 6));
        }
        for (int i = 0; i < sizes.length; i++) {
            int burst = i;
            Checks.due("the size of " + i, sizes[i], () -> x.burst(burst, 0));
        }
    }

    private static void numbered() {
        Doc.says("Bursts", "Bursts are numbered from 0 in the order of time.");
        DischargeRecorder x = Edge.at(5, 105, 205);
        for (int i = 0; i < 3; i++) {
            int number = i;
            Checks.due("burst " + i, 100L * i + 5, () -> x.burst(number, 1));
            Checks.due("the pulse of " + i, i, () -> x.pulse(number, 6));
        }
        x.forget(6);
        Checks.due("numbered from 0 again", 105L, () -> x.burst(0, 1));
        Checks.due("the pulse's number", 0, () -> x.pulse(0, 6));
        Checks.due("no burst 2", Checks.IOOBE, () -> x.burst(2, 1));
    }

    private static void bursts() {
        Doc.says("20", "Returns the number of bursts.");
        Checks.due("of an empty log", 0, () -> new DischargeRecorder().bursts());
        Checks.due("none accepted", 0, () -> Checks.recorder("m5+19;n5+9;i5+9;").bursts());
        Checks.due("one", 1, () -> Edge.at(0).bursts());
        DischargeRecorder x = new DischargeRecorder();
        for (int i = 0; i < 250; i++) {
            x.record(0, 21 * i, 100);
        }
        Checks.due("as many as pulses", 250, x::bursts);
        Checks.due("the last one", 249, () -> x.pulse(249, 6));
        x.set(7, 21);
        Checks.due("one of all", 1, x::bursts);
        Checks.due("all pulses", 250L, () -> x.burst(0, 0));
    }

    private static void burst() {
        Doc.says("21", "Returns something about a burst.");
        Doc.says("21", "`what`: 0 the number of its pulses, 1 the time of its first pulse, 2 the"
            + " time of its last pulse, 3 the sum of their charges");
        Doc.says("21", "Returns that value.");
        DischargeRecorder x = Checks.recorder("m5+50;m1+999;m9-60;n2+30;m18+70;m21+80;");
        long[][] due = {{3, 5, 35, 180}, {1, 56, 56, 80}};
        for (int burst = 0; burst < due.length; burst++) {
            int number = burst;
            for (int what = 0; what < 4; what++) {
                int asked = what;
                Checks.due("burst " + burst + ", " + what, due[burst][what],
                    () -> x.burst(number, asked));
            }
        }
        DischargeRecorder zero = Edge.with("m0+0;", 2, 0);
        for (int what = 0; what < 4; what++) {
            int asked = what;
            Checks.due("a pulse of 0 at tick 0, " + what, what == 0 ? 1L : 0L,
                () -> zero.burst(0, asked));
        }
        DischargeRecorder y = Checks.heavy(100);
        y.set(5, 0);
        for (int i = 0; i < 150; i++) {
            y.record(0, 7, 2000);
        }
        Checks.due("the greatest sum", 30000000000L, () -> y.burst(0, 3));
    }

    private static void burstRefuses() {
        Doc.says("21", "`burst`: number of a burst");
        Doc.says("21", "Throws `IndexOutOfBoundsException` if there is no such burst");
        Edge.refusedIn(Edge.State.FRESH, "without bursts", Checks.IOOBE, x -> x.burst(0, 0));
        for (int burst : new int[] {-1, 250, Integer.MIN_VALUE, Integer.MAX_VALUE}) {
            Edge.refused("burst " + burst, Checks.IOOBE, x -> x.burst(burst, 0));
        }
        for (Edge.State state : Edge.State.values()) {
            Edge.refusedIn(state, "behind the last burst", Checks.IOOBE,
                x -> x.burst(x.bursts(), 0));
        }
        for (Edge.State state : new Edge.State[] {Edge.State.RICH, Edge.State.FULL}) {
            Edge.taken(state, "the last burst", x -> x.burst(x.bursts() - 1, 0));
        }
        Doc.says("21", "Throws `IllegalArgumentException` if what is out of range");
        for (int what : new int[] {-1, 4, Integer.MIN_VALUE, Integer.MAX_VALUE}) {
            for (Edge.State state : new Edge.State[] {Edge.State.RICH, Edge.State.FULL}) {
                Edge.refusedIn(state, "what " + what, Checks.IAE, x -> x.burst(0, what));
            }
        }
        Edge.taken(Edge.State.RICH, "what 3", x -> x.burst(0, 3));
    }
}
