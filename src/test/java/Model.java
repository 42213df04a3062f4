import java.math.BigInteger;
import java.util.ArrayDeque;
import java.util.ArrayList;
import java.util.Collections;
import java.util.List;

/** The document written a second time, in a slow and different way, to compare the class with. */
final class Model {
    static final long NONE = Checks.NONE;

    /** A state of the body; it is never changed behind a copy. */
    static final class Body {
        List<int[]> thrusters = new ArrayList<>(); // x, y, direction, f, tank, least, state
        int[] fuel = {100000, 100000};
        List<Integer> sets = new ArrayList<>();
        List<int[]> queue = new ArrayList<>();
        int[] carry = new int[3];
        int[] delivered = new int[3];
        int[] target = new int[3];
        long[] total = new long[3];
        int cycles = 0;
        List<Integer> pulses = new ArrayList<>();
        List<Boolean> sound = new ArrayList<>();

        Body copy() {
            Body b = new Body();
            for (int[] t : thrusters) {
                b.thrusters.add(t.clone());
            }
            b.fuel = fuel.clone();
            b.sets.addAll(sets);
            b.queue.addAll(queue);
            b.carry = carry.clone();
            b.delivered = delivered.clone();
            b.target = target.clone();
            b.total = total.clone();
            b.cycles = cycles;
            b.pulses.addAll(pulses);
            b.sound.addAll(sound);
            return b;
        }
    }

    Body now = new Body();
    ArrayDeque<Body> history = new ArrayDeque<>();
    StringBuilder text = new StringBuilder();

    // What the generator aims at is counted, so that a test can see that it was reached.
    int selections = 0;

    private void record() {
        history.addLast(now.copy());
        if (history.size() > 5) {
            history.removeFirst();
        }
    }

    private static boolean in(long v, long low, long high) {
        return low <= v && v <= high;
    }

    private boolean has(int thruster) {
        return thruster >= 0 && thruster < now.thrusters.size();
    }

    long addThruster(int[] a) {
        if (!in(a[4], 0, 1)) {
            return Checks.BAD_INDEX;
        }
        if (!in(a[0], -10, 10) || !in(a[1], -10, 10) || !in(a[2], 0, 3) || !in(a[3], 1, 10) || !in(a[5], 1, 10)) {
            return Checks.BAD_VALUE;
        }
        if (now.thrusters.size() == 8) {
            return Checks.FULL;
        }
        record();
        now.thrusters.add(new int[] {a[0], a[1], a[2], a[3], a[4], a[5], 0});
        return now.thrusters.size() - 1;
    }

    long setState(int thruster, int state) {
        if (!has(thruster)) {
            return Checks.BAD_INDEX;
        }
        if (!in(state, 0, 2)) {
            return Checks.BAD_VALUE;
        }
        record();
        int[] t = now.thrusters.get(thruster);
        int before = t[6];
        t[6] = state;
        return before;
    }

    private boolean usable(int[] t) {
        return t[6] == 0 && now.fuel[t[4]] >= 600;
    }

    private boolean runs(int[] t) {
        return t[6] == 2 && now.fuel[t[4]] >= 20 * t[3];
    }

    long thruster(int thruster, int what) {
        if (!has(thruster)) {
            return Checks.BAD_INDEX;
        }
        if (!in(what, 0, 8)) {
            return Checks.BAD_VALUE;
        }
        int[] t = now.thrusters.get(thruster);
        return what < 7 ? t[what] : (what == 7 ? usable(t) : runs(t)) ? 1 : 0;
    }

    private static int[] unitOf(int[] t) {
        int dx = t[2] == 0 ? 1 : t[2] == 2 ? -1 : 0;
        int dy = t[2] == 1 ? 1 : t[2] == 3 ? -1 : 0;
        return new int[] {t[3] * dx, t[3] * dy, t[3] * (t[0] * dy - t[1] * dx)};
    }

    long unit(int thruster, int part) {
        return has(thruster) && in(part, 0, 2) ? unitOf(now.thrusters.get(thruster))[part] : Checks.BAD_INDEX;
    }

    long determinant(int one, int two, int three) {
        if (!has(one) || !has(two) || !has(three)) {
            return Checks.BAD_INDEX;
        }
        int[] a = unitOf(now.thrusters.get(one));
        int[] b = unitOf(now.thrusters.get(two));
        int[] c = unitOf(now.thrusters.get(three));
        return a[0] * b[1] * c[2] + b[0] * c[1] * a[2] + c[0] * a[1] * b[2]
            - c[0] * b[1] * a[2] - a[0] * c[1] * b[2] - b[0] * a[1] * c[2];
    }

    long refuel(int tank, int units) {
        if (!in(tank, 0, 1)) {
            return Checks.BAD_INDEX;
        }
        if (!in(units, 0, 100000)) {
            return Checks.BAD_VALUE;
        }
        record();
        int before = now.fuel[tank];
        now.fuel[tank] = units;
        return before;
    }

    long fuel(int tank) {
        return in(tank, 0, 1) ? now.fuel[tank] : Checks.BAD_INDEX;
    }

    long forbid(int set) {
        int members = 0;
        for (int i = 0; i < 32; i++) {
            if ((set >>> i) % 2 != 0) {
                if (!has(i)) {
                    return Checks.BAD_VALUE;
                }
                members++;
            }
        }
        if (members < 2) {
            return Checks.BAD_VALUE;
        }
        if (now.sets.contains(set)) {
            return Checks.BAD_STATE;
        }
        if (now.sets.size() == 8) {
            return Checks.FULL;
        }
        record();
        now.sets.add(set);
        return now.sets.size();
    }

    long allow(int set) {
        if (!now.sets.contains(set)) {
            return Checks.BAD_STATE;
        }
        record();
        now.sets.remove(Integer.valueOf(set));
        return now.sets.size();
    }

    private boolean forbidden(int set) {
        boolean[] fires = new boolean[8];
        for (int i = 0; i < 8; i++) {
            fires[i] = (set >> i) % 2 != 0 || has(i) && runs(now.thrusters.get(i));
        }
        for (int s : now.sets) {
            boolean all = true;
            for (int i = 0; i < 8; i++) {
                all &= fires[i] || (s >> i) % 2 == 0;
            }
            if (all) {
                return true;
            }
        }
        return false;
    }

    long isForbidden(int set) {
        return !in(set, 0, 255) ? Checks.BAD_VALUE : forbidden(set) ? 1 : 0;
    }

    /** An exact fraction with a denominator above 0. */
    record Fraction(BigInteger top, BigInteger bottom) implements Comparable<Fraction> {
        static Fraction of(long v) {
            return new Fraction(BigInteger.valueOf(v), BigInteger.ONE);
        }

        private static Fraction reduced(BigInteger top, BigInteger bottom) {
            BigInteger g = top.gcd(bottom).multiply(BigInteger.valueOf(bottom.signum()));
            return new Fraction(top.divide(g), bottom.divide(g));
        }

        Fraction plus(Fraction o) {
            return reduced(top.multiply(o.bottom).add(o.top.multiply(bottom)), bottom.multiply(o.bottom));
        }

        Fraction times(Fraction o) {
            return reduced(top.multiply(o.top), bottom.multiply(o.bottom));
        }

        Fraction minus(Fraction o) {
            return plus(o.times(of(-1)));
        }

        Fraction over(Fraction o) {
            return reduced(top.multiply(o.bottom), bottom.multiply(o.top));
        }

        int floor() {
            BigInteger[] parts = top.divideAndRemainder(bottom);
            return parts[0].intValueExact() - (parts[1].signum() < 0 ? 1 : 0);
        }

        public int compareTo(Fraction o) {
            return top.multiply(o.bottom).compareTo(o.top.multiply(bottom));
        }
    }

    /** Gaussian elimination; null if there is not just one solution. */
    private static Fraction[] solve(int[][] columns, int[] target) {
        Fraction[][] rows = new Fraction[3][4];
        for (int r = 0; r < 3; r++) {
            for (int c = 0; c < 3; c++) {
                rows[r][c] = Fraction.of(columns[c][r]);
            }
            rows[r][3] = Fraction.of(target[r]);
        }
        for (int c = 0; c < 3; c++) {
            int pivot = c;
            while (pivot < 3 && rows[pivot][c].top().signum() == 0) {
                pivot++;
            }
            if (pivot == 3) {
                return null;
            }
            Fraction[] swap = rows[c];
            rows[c] = rows[pivot];
            rows[pivot] = swap;
            for (int r = 0; r < 3; r++) {
                if (r != c) {
                    Fraction factor = rows[r][c].over(rows[c][c]);
                    for (int k = 0; k < 4; k++) {
                        rows[r][k] = rows[r][k].minus(factor.times(rows[c][k]));
                    }
                }
            }
        }
        Fraction[] w = new Fraction[3];
        for (int c = 0; c < 3; c++) {
            w[c] = rows[c][3].over(rows[c][c]);
        }
        return w;
    }

    record Solution(Fraction price, int mask, Fraction[] ticks) implements Comparable<Solution> {
        public int compareTo(Solution o) {
            int byPrice = price.compareTo(o.price);
            return byPrice != 0 ? byPrice : Integer.compare(mask, o.mask);
        }
    }

    private Solution selection(int[] target) {
        Fraction[] none = new Fraction[8];
        java.util.Arrays.fill(none, Fraction.of(0));
        if (target[0] == 0 && target[1] == 0 && target[2] == 0) {
            return new Solution(Fraction.of(0), 0, none);
        }
        List<Solution> possible = new ArrayList<>();
        for (int mask = 0; mask < 1 << now.thrusters.size(); mask++) {
            if (Integer.bitCount(mask) == 3) {
                Solution s = solutionOf(mask, target, none);
                if (s != null) {
                    possible.add(s);
                }
            }
        }
        return possible.isEmpty() ? null : Collections.min(possible);
    }

    private Solution solutionOf(int mask, int[] target, Fraction[] none) {
        int[] members = new int[3];
        int[][] columns = new int[3][];
        int n = 0;
        for (int i = 0; i < now.thrusters.size(); i++) {
            if ((mask >> i & 1) == 1) {
                if (!usable(now.thrusters.get(i))) {
                    return null;
                }
                members[n] = i;
                columns[n++] = unitOf(now.thrusters.get(i));
            }
        }
        Fraction[] w = solve(columns, target);
        if (w == null) {
            return null;
        }
        Fraction[] ticks = none.clone();
        Fraction price = Fraction.of(0);
        int used = 0;
        for (int k = 0; k < 3; k++) {
            if (w[k].compareTo(Fraction.of(0)) < 0 || w[k].compareTo(Fraction.of(20)) > 0) {
                return null;
            }
            int[] t = now.thrusters.get(members[k]);
            int q = now.fuel[t[4]] < now.fuel[1 - t[4]] ? 2 : 1;
            price = price.plus(w[k].times(Fraction.of(t[3] * q)));
            ticks[members[k]] = w[k];
            used += w[k].top().signum() > 0 ? 1 << members[k] : 0;
        }
        if (forbidden(used)) {
            return null;
        }
        selections++;
        return new Solution(price, used, ticks);
    }

    private static boolean far(int[] v, int size) {
        return !in(v[0], -size, size) || !in(v[1], -size, size) || !in(v[2], -size, size);
    }

    long select(int[] t) {
        if (far(t, 40000)) {
            return Checks.BAD_VALUE;
        }
        Solution s = selection(t);
        return s == null ? NONE : s.mask();
    }

    private int pulseBy(Solution s, int i) {
        Fraction w = s == null ? Fraction.of(0) : s.ticks()[i];
        if (w.top().signum() == 0) {
            return 0;
        }
        int least = now.thrusters.get(i)[5];
        int rounded = w.plus(Fraction.of(1).over(Fraction.of(2))).floor();
        if (rounded < least) {
            return w.times(Fraction.of(2)).compareTo(Fraction.of(least)) >= 0 ? least : 0;
        }
        return rounded;
    }

    long pulse(int[] t, int thruster) {
        if (!has(thruster)) {
            return Checks.BAD_INDEX;
        }
        if (far(t, 40000)) {
            return Checks.BAD_VALUE;
        }
        Solution s = selection(t);
        return s == null ? NONE : pulseBy(s, thruster);
    }

    long price(int[] t) {
        if (far(t, 40000)) {
            return Checks.BAD_VALUE;
        }
        Solution s = selection(t);
        return s == null ? NONE : s.price().times(Fraction.of(1000)).floor();
    }

    long put(int[] r, boolean first) {
        if (far(r, 2000)) {
            return Checks.BAD_VALUE;
        }
        if (now.queue.size() == 10) {
            return Checks.FULL;
        }
        record();
        now.queue.add(first ? 0 : now.queue.size(), r.clone());
        return now.queue.size();
    }

    long cancel(int place) {
        if (!in(place, 0, now.queue.size() - 1)) {
            return Checks.BAD_INDEX;
        }
        record();
        now.queue.remove(place);
        return now.queue.size();
    }

    long requested(int place, int part) {
        return in(place, 0, now.queue.size() - 1) && in(part, 0, 2) ? now.queue.get(place)[part] : Checks.BAD_INDEX;
    }

    private long once() {
        int[] target = now.queue.isEmpty() ? new int[3] : now.queue.remove(0).clone();
        List<Boolean> running = new ArrayList<>();
        for (int[] t : now.thrusters) {
            running.add(runs(t));
        }
        for (int part = 0; part < 3; part++) {
            target[part] += now.carry[part];
            for (int i = 0; i < now.thrusters.size(); i++) {
                target[part] -= running.get(i) ? 20 * unitOf(now.thrusters.get(i))[part] : 0;
            }
        }
        Solution s = selection(target);
        int[] selected = new int[3];
        int[] all = new int[3];
        int[] used = new int[2];
        long mask = 0;
        now.pulses.clear();
        now.sound.clear();
        for (int i = 0; i < now.thrusters.size(); i++) {
            int[] t = now.thrusters.get(i);
            int pulse = pulseBy(s, i);
            now.pulses.add(pulse);
            now.sound.add(t[6] == 0);
            mask += pulse > 0 ? 1L << i : 0;
            int ticks = running.get(i) ? 20 : pulse;
            for (int part = 0; part < 3; part++) {
                selected[part] += pulse * unitOf(t)[part];
                all[part] += ticks * unitOf(t)[part];
            }
            used[t[4]] += ticks * t[3];
        }
        for (int tank = 0; tank < 2; tank++) {
            now.fuel[tank] = used[tank] > now.fuel[tank] ? 0 : now.fuel[tank] - used[tank];
        }
        for (int part = 0; part < 3; part++) {
            int left = target[part] - selected[part];
            now.carry[part] = left > 4000 ? 4000 : left < -4000 ? -4000 : left;
            now.total[part] += all[part];
        }
        now.delivered = all;
        now.target = target;
        now.cycles++;
        return s == null ? NONE : mask;
    }

    long cycle() {
        record();
        return once();
    }

    long cycles(int many) {
        if (!in(many, 1, 20)) {
            return Checks.BAD_VALUE;
        }
        record();
        long selected = 0;
        for (int k = 0; k < many; k++) {
            selected += once() == NONE ? 0 : 1;
        }
        return selected;
    }

    long fired(int thruster) {
        if (!has(thruster)) {
            return Checks.BAD_INDEX;
        }
        return thruster < now.pulses.size() ? now.pulses.get(thruster) : 0;
    }

    long impulse(int what, int part) {
        if (!in(part, 0, 2)) {
            return Checks.BAD_INDEX;
        }
        if (!in(what, 0, 2)) {
            return Checks.BAD_VALUE;
        }
        return (what == 0 ? now.carry : what == 1 ? now.delivered : now.target)[part];
    }

    long total(int part) {
        return in(part, 0, 2) ? now.total[part] : Checks.BAD_INDEX;
    }

    long suspect(int[] m) {
        if (far(m, 1000000)) {
            return Checks.BAD_VALUE;
        }
        if (now.cycles == 0) {
            return Checks.BAD_STATE;
        }
        if (java.util.Arrays.equals(m, now.delivered)) {
            return 0;
        }
        for (int code = 100; code < 300; code++) {
            int i = code % 100;
            if (i < now.sound.size() && now.sound.get(i)) {
                int pulse = now.pulses.get(i);
                int more = code < 200 ? -pulse : 20 - pulse;
                boolean may = code < 200 ? pulse > 0 : pulse < 20;
                int[] unit = unitOf(now.thrusters.get(i));
                int[] would = now.delivered.clone();
                for (int part = 0; part < 3; part++) {
                    would[part] += more * unit[part];
                }
                if (may && java.util.Arrays.equals(m, would)) {
                    return code;
                }
            }
        }
        return NONE;
    }

    long undo() {
        if (history.isEmpty()) {
            return Checks.BAD_STATE;
        }
        now = history.removeLast();
        return history.size();
    }

    long type(int code) {
        if (!in(code, 0, 255)) {
            return Checks.BAD_VALUE;
        }
        if (text.length() == 100) {
            return Checks.FULL;
        }
        return text.append((char) code).length();
    }

    long clearText() {
        int before = text.length();
        text.setLength(0);
        return before;
    }

    /** Goes through the bytes with a table of what may stand next; adds the requests it meets to the list, {front, x, y, turn}. */
    private int fault(List<int[]> requests) {
        int room = 10 - now.queue.size();
        // 0 at a request's start, 1 behind !, 2 behind a comma, 3 behind -, 4 behind a number
        int mode = 0;
        int part = 0;
        int sign = 1;
        int[] request = new int[4];
        int p = 0;
        while (p < text.length()) {
            char c = text.charAt(p);
            if (c == ' ') {
                p++;
                continue;
            }
            if (mode == 0 && requests.size() == room) {
                return p;
            }
            if (c >= '0' && c <= '9' && mode != 4) {
                int end = p;
                while (end < text.length() && text.charAt(end) >= '0' && text.charAt(end) <= '9') {
                    end++;
                }
                if (end - p > 4 || Integer.parseInt(text.substring(p, end)) > 2000) {
                    return p;
                }
                request[++part] = sign * Integer.parseInt(text.substring(p, end));
                p = end;
                mode = 4;
                continue;
            }
            if (c == '!' && mode == 0) {
                request[0] = 1;
                mode = 1;
            } else if (c == '-' && mode < 3) {
                sign = -1;
                mode = 3;
            } else if (c == ',' && mode == 4 && part < 3) {
                sign = 1;
                mode = 2;
            } else if (c == ';' && mode == 4 && part == 3) {
                requests.add(request);
                request = new int[4];
                sign = 1;
                part = 0;
                mode = 0;
            } else {
                return p;
            }
            p++;
        }
        if (mode == 4 && part == 3) {
            requests.add(request);
            return (int) NONE;
        }
        return text.length();
    }

    long textFault() {
        return fault(new ArrayList<>());
    }

    long load() {
        List<int[]> requests = new ArrayList<>();
        if (fault(requests) != NONE) {
            return Checks.BAD_STATE;
        }
        record();
        for (int[] r : requests) {
            now.queue.add(r[0] == 1 ? 0 : now.queue.size(), new int[] {r[1], r[2], r[3]});
        }
        return now.queue.size();
    }

    long digest() {
        List<Long> numbers = new ArrayList<>();
        numbers.add((long) now.thrusters.size());
        for (int i = 0; i < now.thrusters.size(); i++) {
            for (int v : now.thrusters.get(i)) {
                numbers.add((long) v);
            }
            numbers.add(fired(i));
        }
        numbers.add((long) now.fuel[0]);
        numbers.add((long) now.fuel[1]);
        numbers.add((long) now.queue.size());
        for (int[] r : now.queue) {
            for (int v : r) {
                numbers.add((long) v);
            }
        }
        for (int k = 0; k < 9; k++) {
            numbers.add(impulse(k / 3, k % 3));
        }
        for (long v : now.total) {
            numbers.add(v);
        }
        numbers.add((long) now.cycles);
        long h = 17;
        for (long v : numbers) {
            h = 31 * h + v;
        }
        return h;
    }
}
