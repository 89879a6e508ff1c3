import java.util.ArrayList;
import java.util.List;

/**
 * The document once more, told as plainly as it goes and with no thought of speed: what the random
 * runs compare the recorder with. It shares no code and no ways of reckoning with it.
 */
final class PlainModel {
    private static final int[][] RANGES = {{0, 359}, {1, 1000}, {0, 2000}, {1, 2000}, {0, 100},
        {0, 1000}, {1, 1000}, {0, 1000}, {1, 1000}, {1, 10}, {1, 100000}};

    private record Pulse(int kind, int time, int amplitude) {
    }

    private record Saved(List<Integer> values, List<int[]> windows, List<Pulse> log) {
    }

    private List<Integer> values = List.of(0, 100, 20, 200, 3, 2, 10, 20, 1, 2, 500);
    private List<int[]> windows = List.of();
    private List<Pulse> log = List.of();
    private final List<Saved> saved = new ArrayList<>();
    private String text = "";

    private static void argument(boolean good) {
        if (!good) {
            throw new IllegalArgumentException();
        }
    }

    private static void room(boolean good) {
        if (!good) {
            throw new IllegalStateException();
        }
    }

    private static void there(boolean good) {
        if (!good) {
            throw new IndexOutOfBoundsException();
        }
    }

    private static void times(int from, int to) {
        argument(0 <= from && from <= to && to <= 1000000);
    }

    private void save() {
        saved.add(new Saved(values, windows, log));
        if (saved.size() > 4) {
            saved.remove(0);
        }
    }

    int set(int what, int value) {
        argument(what >= 0 && what <= 10);
        argument(RANGES[what][0] <= value && value <= RANGES[what][1]);
        save();
        values = new ArrayList<>(values);
        return values.set(what, value);
    }

    int value(int what) {
        argument(what >= 0 && what <= 10);
        return values.get(what);
    }

    int block(int first, int last) {
        argument(0 <= first && first < 360 && 0 <= last && last < 360);
        room(windows.size() < 4);
        save();
        windows = new ArrayList<>(windows);
        windows.add(new int[] {first, last});
        return windows.size();
    }

    int unblock() {
        save();
        int number = windows.size();
        windows = List.of();
        return number;
    }

    private int last() {
        return log.isEmpty() ? 0 : log.get(log.size() - 1).time;
    }

    int record(int kind, int time, int amplitude) {
        argument(0 <= kind && kind <= 2);
        argument(0 <= time && time <= 1000000 && time >= last());
        argument(-2000 <= amplitude && amplitude <= 2000);
        room(log.size() < 250);
        save();
        log = new ArrayList<>(log);
        log.add(new Pulse(kind, time, amplitude));
        return log.size() - 1;
    }

    int forget(int time) {
        argument(0 <= time && time <= 1000000);
        save();
        int number = log.size();
        log = log.stream().filter(p -> p.time >= time).toList();
        return number - log.size();
    }

    int append(int value) {
        argument(0 <= value && value <= 127);
        room(text.length() < 150);
        text += (char) value;
        return text.length();
    }

    int clearText() {
        int length = text.length();
        text = "";
        return length;
    }

    /** The first position at which no text of the language can go on as this one does. */
    private int syntaxError() {
        String state = "kind";
        int digits = 0;
        int number = 0;
        for (int i = 0; i <= text.length(); i++) {
            char c = i < text.length() ? text.charAt(i) : 0;
            boolean digit = Character.isDigit(c);
            if (state.equals("amplitude") && !digit && digits > 0 && number > 2000) {
                return i - digits;
            }
            if (i == text.length()) {
                return state.equals("kind") ? -1 : i;
            }
            if (state.equals("kind") && "mni".indexOf(c) >= 0) {
                state = "ticks";
                digits = 0;
            } else if (!state.equals("kind") && digit && digits < 4) {
                digits++;
                number = state.equals("amplitude") ? number * 10 + c - '0' : 0;
            } else if (state.equals("ticks") && digits > 0 && "+-".indexOf(c) >= 0) {
                state = "amplitude";
                digits = 0;
                number = 0;
            } else if (state.equals("amplitude") && digits > 0 && c == ';') {
                state = "kind";
            } else {
                return i;
            }
        }
        return -1;
    }

    int parse() {
        int error = syntaxError();
        if (error >= 0) {
            return -10 - error;
        }
        List<Pulse> longer = new ArrayList<>(log);
        int time = last();
        int number = 0;
        for (String pulse : text.split(";")) {
            if (!pulse.isEmpty()) {
                String[] parts = pulse.substring(1).split("[+-]");
                time += Integer.parseInt(parts[0]);
                if (time > 1000000 || longer.size() == 250) {
                    return -1000 - number;
                }
                int size = Integer.parseInt(parts[1]);
                longer.add(new Pulse("mni".indexOf(pulse.charAt(0)), time,
                    pulse.contains("-") ? -size : size));
                number++;
            }
        }
        save();
        log = longer;
        return number;
    }

    int pulses() {
        return log.size();
    }

    private int phase(int pulse) {
        return (log.get(pulse).time + values.get(0)) % 360;
    }

    private long charge(int pulse) {
        long n = 0;
        long s = 0;
        for (Pulse p : log) {
            if (p.kind == 2) {
                n++;
                s += Math.abs(p.amplitude);
            }
        }
        long size = Math.abs(log.get(pulse).amplitude);
        return n == 0 || s == 0 ? size : size * values.get(1) * n / s;
    }

    private boolean blocked(int phase) {
        for (int[] window : windows) {
            int at = window[0];
            while (at != window[1]) {
                if (at == phase) {
                    return true;
                }
                at = (at + 1) % 360;
            }
            if (at == phase) {
                return true;
            }
        }
        return false;
    }

    private List<Integer> statusList(int level, int gateLevel, int gateWidth, int deadTime) {
        List<Integer> list = new ArrayList<>();
        for (int i = 0; i < log.size(); i++) {
            Pulse p = log.get(i);
            boolean gated = false;
            for (Pulse other : log) {
                gated |= other.kind == 1 && Math.abs(other.amplitude) >= gateLevel
                    && Math.abs(other.time - p.time) <= gateWidth;
            }
            boolean dead = false;
            for (int j = 0; j < i; j++) {
                dead |= list.get(j) == 0 && p.time - log.get(j).time < deadTime;
            }
            list.add(p.kind == 1 ? 5 : p.kind == 2 ? 6 : Math.abs(p.amplitude) < level ? 1
                : gated ? 2 : blocked(phase(i)) ? 3 : dead ? 4 : 0);
        }
        return list;
    }

    private List<Integer> statusList() {
        return statusList(values.get(2), values.get(3), values.get(4), values.get(5));
    }

    private List<Integer> accepted(long from, long to) {
        List<Integer> list = new ArrayList<>();
        List<Integer> all = statusList();
        for (int i = 0; i < log.size(); i++) {
            if (all.get(i) == 0 && from <= log.get(i).time && log.get(i).time <= to) {
                list.add(i);
            }
        }
        return list;
    }

    private List<List<Integer>> burstList() {
        List<List<Integer>> list = new ArrayList<>();
        int before = -1;
        for (int i : accepted(0, 1000000)) {
            if (before < 0 || log.get(i).time - log.get(before).time > values.get(7)) {
                list.add(new ArrayList<>());
            }
            list.get(list.size() - 1).add(i);
            before = i;
        }
        return list;
    }

    int pulse(int pulse, int what) {
        there(pulse >= 0 && pulse < log.size());
        argument(what >= 0 && what <= 6);
        Pulse p = log.get(pulse);
        List<List<Integer>> bursts = what == 6 ? burstList() : List.of();
        for (int i = 0; i < bursts.size(); i++) {
            if (bursts.get(i).contains(pulse)) {
                return i;
            }
        }
        return what == 0 ? p.kind : what == 1 ? p.time : what == 2 ? p.amplitude
            : what == 3 ? phase(pulse) : what == 4 ? (int) charge(pulse)
            : what == 5 ? statusList().get(pulse) : -1;
    }

    int statuses(int status) {
        argument(status >= 0 && status <= 6);
        return (int) statusList().stream().filter(s -> s == status).count();
    }

    int count(int bin, int level) {
        argument(bin >= -1 && bin <= 35 && level >= -1 && level <= 15);
        int number = 0;
        for (int i : accepted(0, 1000000)) {
            long itsLevel = Math.min(15, charge(i) / values.get(6));
            boolean inBin = bin == -1 || phase(i) / 10 == bin;
            boolean inLevel = level == -1 || itsLevel == level;
            number += inBin && inLevel ? 1 : 0;
        }
        return number;
    }

    private int[] binRow(int from, int to) {
        int[] row = new int[36];
        for (int i : accepted(from, to)) {
            row[phase(i) / 10]++;
        }
        return row;
    }

    int fullest(int from, int to) {
        times(from, to);
        int[] row = binRow(from, to);
        int best = -1;
        int most = 0;
        for (int bin = 0; bin < 36; bin++) {
            if (row[bin] > most) {
                most = row[bin];
                best = bin;
            }
        }
        return best;
    }

    private List<Integer> halfList(int half, int from, int to) {
        return accepted(from, to).stream().filter(i -> phase(i) < 180 == (half == 0)).toList();
    }

    long feature(int half, int from, int to, int what) {
        argument(half == 0 || half == 1);
        times(from, to);
        argument(what >= 0 && what <= 5);
        List<Integer> list = halfList(half, from, to);
        switch (what) {
            case 0: return list.size();
            case 1: return list.stream().mapToLong(this::charge).max().orElse(0);
            case 2: return list.stream().mapToLong(this::charge).sum();
            case 3: return list.stream().filter(i -> log.get(i).amplitude >= 0).count();
            case 4: return list.stream().mapToInt(this::phase).min().orElse(-1);
            default: return list.stream().mapToInt(this::phase).max().orElse(-1);
        }
    }

    double asymmetry(int from, int to) {
        times(from, to);
        List<Integer> zero = halfList(0, from, to);
        List<Integer> one = halfList(1, from, to);
        long sum0 = zero.stream().mapToLong(this::charge).sum();
        long sum1 = one.stream().mapToLong(this::charge).sum();
        if (zero.isEmpty() || one.isEmpty() || sum0 == 0) {
            return 0.0;
        }
        return ((double) sum1 / (double) one.size()) / ((double) sum0 / (double) zero.size());
    }

    int pattern(int from, int to) {
        times(from, to);
        List<Integer> list = accepted(from, to);
        int n = list.size();
        int[] h = new int[2];
        int[] q = new int[4];
        for (int i : list) {
            h[phase(i) < 180 ? 0 : 1]++;
            q[phase(i) / 90]++;
        }
        long bins = list.stream().map(i -> phase(i) / 10).distinct().count();
        if (n < 10) {
            return 0;
        }
        if (Math.max(h[0], h[1]) * 10 >= 8 * n) {
            return 1;
        }
        if ((q[0] + q[2]) * 10 >= 7 * n) {
            return Math.abs(h[0] - h[1]) * 5 <= n ? 2 : 3;
        }
        return bins >= 24 ? 4 : 5;
    }

    int similarity(int from1, int to1, int from2, int to2) {
        times(from1, to1);
        times(from2, to2);
        int[] a = binRow(from1, to1);
        int[] b = binRow(from2, to2);
        long allA = accepted(from1, to1).size();
        long allB = accepted(from2, to2).size();
        long s = 0;
        for (int bin = 0; bin < 36; bin++) {
            s += Math.min(a[bin] * allB, b[bin] * allA);
        }
        return allA == 0 || allB == 0 ? 0 : (int) (1000 * s / (allA * allB));
    }

    int bursts() {
        return burstList().size();
    }

    long burst(int burst, int what) {
        List<List<Integer>> bursts = burstList();
        there(burst >= 0 && burst < bursts.size());
        argument(what >= 0 && what <= 3);
        List<Integer> list = bursts.get(burst);
        switch (what) {
            case 0: return list.size();
            case 1: return log.get(list.get(0)).time;
            case 2: return log.get(list.get(list.size() - 1)).time;
            default: return list.stream().mapToLong(this::charge).sum();
        }
    }

    private List<Integer> inInterval(int k) {
        long ticks = 360L * values.get(8);
        return accepted(k * ticks, k * ticks + ticks - 1);
    }

    private long peak(int k) {
        return inInterval(k).stream().mapToLong(this::charge).max().orElse(0);
    }

    private boolean limitAlarm(int k) {
        int persistence = values.get(9);
        for (int j = 0; j < persistence; j++) {
            if (k - j < 0 || peak(k - j) < values.get(10)) {
                return false;
            }
        }
        return true;
    }

    private boolean growthAlarm(int k) {
        return k >= 3 && peak(k) > 0
            && 3 * peak(k) >= 2 * (peak(k - 1) + peak(k - 2) + peak(k - 3));
    }

    long interval(int interval, int what) {
        there(interval >= 0 && interval <= 2777);
        argument(what >= 0 && what <= 4);
        switch (what) {
            case 0: return inInterval(interval).size();
            case 1: return peak(interval);
            case 2: return inInterval(interval).stream().mapToLong(this::charge).sum();
            case 3: return limitAlarm(interval) ? 1 : 0;
            default: return growthAlarm(interval) ? 1 : 0;
        }
    }

    int firstAlarm(boolean growth) {
        // An interval without a peak has no alarm, so only those that hold a pulse are asked.
        for (int i : accepted(0, 1000000)) {
            int k = log.get(i).time / (360 * values.get(8));
            if (growth ? growthAlarm(k) : limitAlarm(k)) {
                return k;
            }
        }
        return -1;
    }

    int statusesWith(int level, int gateLevel, int gateWidth, int deadTime, int status) {
        argument(level >= 0 && level <= 2000 && gateLevel >= 1 && gateLevel <= 2000);
        argument(gateWidth >= 0 && gateWidth <= 100 && deadTime >= 0 && deadTime <= 1000);
        argument(status >= 0 && status <= 6);
        return (int) statusList(level, gateLevel, gateWidth, deadTime).stream()
            .filter(s -> s == status).count();
    }

    int levelFor(int most) {
        argument(most >= 0 && most <= 250);
        // Between two amplitudes of the log a level changes nothing.
        List<Integer> levels = new ArrayList<>(List.of(0));
        for (Pulse p : log) {
            levels.add(Math.abs(p.amplitude) + 1);
        }
        levels.sort(null);
        for (int level : levels) {
            if (level <= 2000
                && statusList(level, values.get(3), values.get(4), values.get(5)).stream()
                    .filter(s -> s == 0).count() <= most) {
                return level;
            }
        }
        return -1;
    }

    int undo() {
        room(!saved.isEmpty());
        Saved newest = saved.remove(saved.size() - 1);
        values = newest.values;
        windows = newest.windows;
        log = newest.log;
        return saved.size();
    }

    long digest() {
        List<Long> list = new ArrayList<>();
        list.add((long) text.length());
        values.forEach(v -> list.add((long) v));
        list.add((long) windows.size());
        windows.forEach(w -> {
            list.add((long) w[0]);
            list.add((long) w[1]);
        });
        list.add((long) log.size());
        List<Integer> statuses = statusList();
        List<List<Integer>> bursts = burstList();
        for (int i = 0; i < log.size(); i++) {
            for (int what = 0; what <= 4; what++) {
                list.add((long) pulse(i, what));
            }
            list.add((long) statuses.get(i));
            long itsBurst = -1;
            for (int b = 0; b < bursts.size(); b++) {
                itsBurst = bursts.get(b).contains(i) ? b : itsBurst;
            }
            list.add(itsBurst);
        }
        list.add((long) bursts.size());
        list.add((long) saved.size());
        long h = 2957;
        for (long v : list) {
            h = 31 * h + v;
        }
        return h;
    }
}
