import java.util.Arrays;

/** A selector of thrusters for a body in a plane. DOC.md tells what each public method promises. */
public final class ThrusterSelector {
    public static final int NONE = -2000000000;
    public static final int BAD_INDEX = -2000000001;
    public static final int BAD_VALUE = -2000000002;
    public static final int BAD_STATE = -2000000003;
    public static final int FULL = -2000000004;

    private static final int MOST_THRUSTERS = 8;
    private static final int MOST_SETS = 8;
    private static final int MOST_REQUESTS = 10;
    private static final int MOST_STATES = 5;
    private static final int MOST_BYTES = 100;
    private static final int MOST_CYCLES = 20;
    private static final int TANKS = 2;
    private static final int PARTS = 3;
    private static final int TICKS = 20;

    private static final int FULL_TANK = 100000;
    private static final int USABLE_FUEL = 600;
    private static final int FARTHEST_PLACE = 10;
    private static final int LARGEST_TARGET = 40000;
    private static final int LARGEST_REQUEST = 2000;
    private static final int LARGEST_CARRY = 4000;
    private static final int LARGEST_MEASURED = 1000000;
    private static final int MOST_DIGITS = 4;
    private static final int ALL_MASKS = 255;

    private static final int PLACE_X = 0;
    private static final int PLACE_Y = 1;
    private static final int DIRECTION = 2;
    private static final int STRENGTH = 3;
    private static final int TANK = 4;
    private static final int LEAST = 5;
    private static final int STATE = 6;
    private static final int PROPERTIES = 7;
    private static final int USABLE = 7;
    private static final int RUNNING = 8;

    private static final int SOUND = 0;
    private static final int STUCK_ON = 2;

    private static final int CARRY = 0;
    private static final int DELIVERED = 1;
    private static final int TARGET = 2;
    private static final int IMPULSES = 3;

    private static final int SILENT_CODE = 100;
    private static final int STEADY_CODE = 200;

    private static final int[] DIRECTION_X = {1, 0, -1, 0};
    private static final int[] DIRECTION_Y = {0, 1, 0, -1};

    private final State state;
    private final History history;
    private final Selection selection;
    private final Text text;

    public ThrusterSelector() {
        state = new State();
        history = new History();
        selection = new Selection();
        text = new Text();
    }

    // ---- thrusters

    public int addThruster(int x, int y, int direction, int strength, int tank, int least) {
        if (!isTank(tank)) {
            return BAD_INDEX;
        }
        boolean placed = isAtMost(x, FARTHEST_PLACE) && isAtMost(y, FARTHEST_PLACE);
        boolean built = isWithin(direction, 0, 3) && isWithin(strength, 1, 10) && isWithin(least, 1, 10);
        if (!placed || !built) {
            return BAD_VALUE;
        }
        if (state.thrusterCount >= MOST_THRUSTERS) {
            return FULL;
        }
        history.keep(state);
        return state.appendThruster(x, y, direction, strength, tank, least);
    }

    public int setState(int thruster, int state) {
        if (!isThruster(thruster)) {
            return BAD_INDEX;
        }
        if (!isWithin(state, SOUND, STUCK_ON)) {
            return BAD_VALUE;
        }
        history.keep(this.state);
        int previous = this.state.property(thruster, STATE);
        this.state.setProperty(thruster, STATE, state);
        return previous;
    }

    public int thrusters() {
        return state.thrusterCount;
    }

    public int thruster(int thruster, int what) {
        if (!isThruster(thruster)) {
            return BAD_INDEX;
        }
        if (!isWithin(what, PLACE_X, RUNNING)) {
            return BAD_VALUE;
        }
        if (what == USABLE) {
            return state.isUsable(thruster) ? 1 : 0;
        }
        if (what == RUNNING) {
            return state.isRunning(thruster) ? 1 : 0;
        }
        return state.property(thruster, what);
    }

    public int unit(int thruster, int part) {
        if (!isThruster(thruster) || !isPart(part)) {
            return BAD_INDEX;
        }
        return state.unitPart(thruster, part);
    }

    public int determinant(int one, int two, int three) {
        if (!isThruster(one) || !isThruster(two) || !isThruster(three)) {
            return BAD_INDEX;
        }
        selection.readThrusters(state);
        return (int) selection.determinantOf(one, two, three);
    }

    public int refuel(int tank, int units) {
        if (!isTank(tank)) {
            return BAD_INDEX;
        }
        if (!isWithin(units, 0, FULL_TANK)) {
            return BAD_VALUE;
        }
        history.keep(state);
        int previous = state.tanks[tank];
        state.tanks[tank] = units;
        return previous;
    }

    public int fuel(int tank) {
        return isTank(tank) ? state.tanks[tank] : BAD_INDEX;
    }

    public int forbid(int set) {
        boolean known = isWithin(set, 0, (1 << state.thrusterCount) - 1);
        if (!known || Integer.bitCount(set) < 2) {
            return BAD_VALUE;
        }
        if (state.placeOfSet(set) >= 0) {
            return BAD_STATE;
        }
        if (state.setCount >= MOST_SETS) {
            return FULL;
        }
        history.keep(state);
        return state.appendSet(set);
    }

    public int allow(int set) {
        int place = state.placeOfSet(set);
        if (place < 0) {
            return BAD_STATE;
        }
        history.keep(state);
        return state.removeSet(place);
    }

    public int isForbidden(int set) {
        if (!isWithin(set, 0, ALL_MASKS)) {
            return BAD_VALUE;
        }
        return state.forbids(set | state.runningMask()) ? 1 : 0;
    }

    // ---- selection

    public int select(int tx, int ty, int tt) {
        if (!isTarget(tx, ty, tt)) {
            return BAD_VALUE;
        }
        selection.find(state, tx, ty, tt);
        return selection.found ? selection.mask : NONE;
    }

    public int pulse(int tx, int ty, int tt, int thruster) {
        if (!isThruster(thruster)) {
            return BAD_INDEX;
        }
        if (!isTarget(tx, ty, tt)) {
            return BAD_VALUE;
        }
        selection.find(state, tx, ty, tt);
        return selection.found ? selection.pulseOf(thruster, state.property(thruster, LEAST)) : NONE;
    }

    public int price(int tx, int ty, int tt) {
        if (!isTarget(tx, ty, tt)) {
            return BAD_VALUE;
        }
        selection.find(state, tx, ty, tt);
        return selection.found ? selection.thousandths() : NONE;
    }

    // ---- queue and cycles

    public int request(int px, int py, int pt) {
        return putRequest(px, py, pt, false);
    }

    public int urge(int px, int py, int pt) {
        return putRequest(px, py, pt, true);
    }

    public int cancel(int place) {
        if (!isPlace(place)) {
            return BAD_INDEX;
        }
        history.keep(state);
        state.removeRequest(place);
        return state.requestCount;
    }

    public int queued() {
        return state.requestCount;
    }

    public int requested(int place, int part) {
        if (!isPlace(place) || !isPart(part)) {
            return BAD_INDEX;
        }
        return state.queue[place * PARTS + part];
    }

    public int cycle() {
        history.keep(state);
        return runCycle();
    }

    public int cycles(int many) {
        if (!isWithin(many, 1, MOST_CYCLES)) {
            return BAD_VALUE;
        }
        history.keep(state);
        int selected = 0;
        for (int k = 0; k < many; k++) {
            if (runCycle() != NONE) {
                selected++;
            }
        }
        return selected;
    }

    public int cycleCount() {
        return state.cycleNumber;
    }

    public int fired(int thruster) {
        return isThruster(thruster) ? state.pulses[thruster] : BAD_INDEX;
    }

    public int impulse(int what, int part) {
        if (!isPart(part)) {
            return BAD_INDEX;
        }
        if (!isWithin(what, CARRY, TARGET)) {
            return BAD_VALUE;
        }
        return state.impulsePart(what, part);
    }

    public long total(int part) {
        return isPart(part) ? state.sums[part] : BAD_INDEX;
    }

    public int suspect(int mx, int my, int mt) {
        if (!areAtMost(mx, my, mt, LARGEST_MEASURED)) {
            return BAD_VALUE;
        }
        if (state.cycleNumber == 0) {
            return BAD_STATE;
        }
        int x = mx - state.impulsePart(DELIVERED, 0);
        int y = my - state.impulsePart(DELIVERED, 1);
        int turn = mt - state.impulsePart(DELIVERED, 2);
        if (x == 0 && y == 0 && turn == 0) {
            return 0;
        }
        int silent = state.firstSilent(x, y, turn);
        if (silent >= 0) {
            return SILENT_CODE + silent;
        }
        int steady = state.firstSteady(x, y, turn);
        return steady >= 0 ? STEADY_CODE + steady : NONE;
    }

    public int undo() {
        if (history.count == 0) {
            return BAD_STATE;
        }
        history.restore(state);
        return history.count;
    }

    // ---- text

    public int type(int code) {
        if (!isWithin(code, 0, 255)) {
            return BAD_VALUE;
        }
        return text.append(code) ? text.length : FULL;
    }

    public int clearText() {
        int previous = text.length;
        text.length = 0;
        return previous;
    }

    public int textFault() {
        return text.read(MOST_REQUESTS - state.requestCount);
    }

    public int load() {
        if (text.read(MOST_REQUESTS - state.requestCount) != NONE) {
            return BAD_STATE;
        }
        history.keep(state);
        for (int k = 0; k < text.readCount; k++) {
            int at = k * PARTS;
            state.insertRequest(text.parts[at], text.parts[at + 1], text.parts[at + 2], text.urgent[k]);
        }
        return state.requestCount;
    }

    public long digest() {
        long h = 31 * 17L + state.thrusterCount;
        for (int i = 0; i < state.thrusterCount; i++) {
            for (int what = 0; what < PROPERTIES; what++) {
                h = 31 * h + state.property(i, what);
            }
            h = 31 * h + state.pulses[i];
        }
        for (int tank = 0; tank < TANKS; tank++) {
            h = 31 * h + state.tanks[tank];
        }
        h = 31 * h + state.requestCount;
        for (int k = 0; k < state.requestCount * PARTS; k++) {
            h = 31 * h + state.queue[k];
        }
        for (int k = 0; k < IMPULSES * PARTS; k++) {
            h = 31 * h + state.impulses[k];
        }
        for (int part = 0; part < PARTS; part++) {
            h = 31 * h + state.sums[part];
        }
        return 31 * h + state.cycleNumber;
    }

    // ---- what the public methods share

    private static boolean isWithin(int value, int low, int high) {
        return value >= low && value <= high;
    }

    private static boolean isAtMost(int value, int size) {
        return isWithin(value, -size, size);
    }

    private static boolean areAtMost(int x, int y, int turn, int size) {
        return isAtMost(x, size) && isAtMost(y, size) && isAtMost(turn, size);
    }

    private static boolean isTarget(int tx, int ty, int tt) {
        return areAtMost(tx, ty, tt, LARGEST_TARGET);
    }

    private static boolean isTank(int tank) {
        return isWithin(tank, 0, TANKS - 1);
    }

    private static boolean isPart(int part) {
        return isWithin(part, 0, PARTS - 1);
    }

    private boolean isThruster(int thruster) {
        return isWithin(thruster, 0, state.thrusterCount - 1);
    }

    private boolean isPlace(int place) {
        return isWithin(place, 0, state.requestCount - 1);
    }

    private int putRequest(int px, int py, int pt, boolean first) {
        if (!areAtMost(px, py, pt, LARGEST_REQUEST)) {
            return BAD_VALUE;
        }
        if (state.requestCount >= MOST_REQUESTS) {
            return FULL;
        }
        history.keep(state);
        state.insertRequest(px, py, pt, first);
        return state.requestCount;
    }

    private int runCycle() {
        int running = state.runningMask();
        state.takeTarget(running);
        selection.find(state, state.impulsePart(TARGET, 0), state.impulsePart(TARGET, 1), state.impulsePart(TARGET, 2));
        int pulsed = state.setPulses(selection);
        state.deliver(running);
        state.burn(running);
        state.cycleNumber++;
        return selection.found ? pulsed : NONE;
    }

    /** All that undo() brings back. */
    private static final class State {
        private final int[] properties = new int[MOST_THRUSTERS * PROPERTIES];
        private final int[] pulses = new int[MOST_THRUSTERS];
        private final int[] tanks = new int[TANKS];
        private final int[] sets = new int[MOST_SETS];
        private final int[] queue = new int[MOST_REQUESTS * PARTS];
        private final int[] impulses = new int[IMPULSES * PARTS];
        private final long[] sums = new long[PARTS];
        private int thrusterCount;
        private int setCount;
        private int requestCount;
        private int cycleNumber;
        private int soundMask;

        State() {
            Arrays.fill(tanks, FULL_TANK);
        }

        void copyFrom(State other) {
            System.arraycopy(other.properties, 0, properties, 0, properties.length);
            System.arraycopy(other.pulses, 0, pulses, 0, pulses.length);
            System.arraycopy(other.tanks, 0, tanks, 0, tanks.length);
            System.arraycopy(other.sets, 0, sets, 0, sets.length);
            System.arraycopy(other.queue, 0, queue, 0, queue.length);
            System.arraycopy(other.impulses, 0, impulses, 0, impulses.length);
            System.arraycopy(other.sums, 0, sums, 0, sums.length);
            thrusterCount = other.thrusterCount;
            setCount = other.setCount;
            requestCount = other.requestCount;
            cycleNumber = other.cycleNumber;
            soundMask = other.soundMask;
        }

        int property(int thruster, int what) {
            return properties[thruster * PROPERTIES + what];
        }

        void setProperty(int thruster, int what, int value) {
            properties[thruster * PROPERTIES + what] = value;
        }

        int impulsePart(int what, int part) {
            return impulses[what * PARTS + part];
        }

        int appendThruster(int x, int y, int direction, int strength, int tank, int least) {
            int added = thrusterCount;
            setProperty(added, PLACE_X, x);
            setProperty(added, PLACE_Y, y);
            setProperty(added, DIRECTION, direction);
            setProperty(added, STRENGTH, strength);
            setProperty(added, TANK, tank);
            setProperty(added, LEAST, least);
            setProperty(added, STATE, SOUND);
            pulses[added] = 0;
            thrusterCount = added + 1;
            return added;
        }

        int unitPart(int thruster, int part) {
            int strength = property(thruster, STRENGTH);
            int dx = DIRECTION_X[property(thruster, DIRECTION)];
            int dy = DIRECTION_Y[property(thruster, DIRECTION)];
            if (part == 0) {
                return strength * dx;
            }
            if (part == 1) {
                return strength * dy;
            }
            return strength * (property(thruster, PLACE_X) * dy - property(thruster, PLACE_Y) * dx);
        }

        int fuelOf(int thruster) {
            return tanks[property(thruster, TANK)];
        }

        boolean isUsable(int thruster) {
            return property(thruster, STATE) == SOUND && fuelOf(thruster) >= USABLE_FUEL;
        }

        boolean isRunning(int thruster) {
            return property(thruster, STATE) == STUCK_ON && fuelOf(thruster) >= TICKS * property(thruster, STRENGTH);
        }

        int runningMask() {
            int mask = 0;
            for (int i = 0; i < thrusterCount; i++) {
                mask |= isRunning(i) ? 1 << i : 0;
            }
            return mask;
        }

        /** What a tick of the thruster costs: fuel of the emptier tank counts twice. */
        int priceOfTick(int thruster) {
            int other = tanks[TANKS - 1 - property(thruster, TANK)];
            return property(thruster, STRENGTH) * (fuelOf(thruster) < other ? 2 : 1);
        }

        int placeOfSet(int set) {
            for (int k = 0; k < setCount; k++) {
                if (sets[k] == set) {
                    return k;
                }
            }
            return -1;
        }

        int appendSet(int set) {
            sets[setCount] = set;
            setCount++;
            return setCount;
        }

        int removeSet(int place) {
            for (int k = place; k < setCount - 1; k++) {
                sets[k] = sets[k + 1];
            }
            setCount--;
            return setCount;
        }

        /** Whether all that fires, the running thrusters among them, contains a forbidden set. */
        boolean forbids(int firing) {
            for (int k = 0; k < setCount; k++) {
                if ((firing & sets[k]) == sets[k]) {
                    return true;
                }
            }
            return false;
        }

        void insertRequest(int px, int py, int pt, boolean first) {
            int used = requestCount * PARTS;
            if (used + PARTS > queue.length) {
                return;
            }
            if (first) {
                System.arraycopy(queue, 0, queue, PARTS, used);
            }
            int at = first ? 0 : used;
            queue[at] = px;
            queue[at + 1] = py;
            queue[at + 2] = pt;
            requestCount++;
        }

        void removeRequest(int place) {
            int behind = (place + 1) * PARTS;
            System.arraycopy(queue, behind, queue, place * PARTS, requestCount * PARTS - behind);
            requestCount--;
        }

        void takeTarget(int running) {
            for (int part = 0; part < PARTS; part++) {
                int wanted = impulsePart(CARRY, part) + (requestCount > 0 ? queue[part] : 0);
                for (int i = 0; i < thrusterCount; i++) {
                    wanted -= ranTicks(running, i) * unitPart(i, part);
                }
                impulses[TARGET * PARTS + part] = wanted;
            }
            if (requestCount > 0) {
                removeRequest(0);
            }
        }

        private static int ranTicks(int running, int thruster) {
            return (running >> thruster & 1) * TICKS;
        }

        int setPulses(Selection selection) {
            int pulsed = 0;
            soundMask = 0;
            for (int i = 0; i < thrusterCount; i++) {
                pulses[i] = selection.pulseOf(i, property(i, LEAST));
                pulsed |= pulses[i] > 0 ? 1 << i : 0;
                soundMask |= property(i, STATE) == SOUND ? 1 << i : 0;
            }
            return pulsed;
        }

        void deliver(int running) {
            for (int part = 0; part < PARTS; part++) {
                int chosen = 0;
                int forced = 0;
                for (int i = 0; i < thrusterCount; i++) {
                    chosen += pulses[i] * unitPart(i, part);
                    forced += ranTicks(running, i) * unitPart(i, part);
                }
                int left = impulsePart(TARGET, part) - chosen;
                impulses[CARRY * PARTS + part] = Math.max(-LARGEST_CARRY, Math.min(LARGEST_CARRY, left));
                impulses[DELIVERED * PARTS + part] = chosen + forced;
                sums[part] += chosen + forced;
            }
        }

        void burn(int running) {
            for (int i = 0; i < thrusterCount; i++) {
                int used = (pulses[i] + ranTicks(running, i)) * property(i, STRENGTH);
                tanks[property(i, TANK)] = Math.max(0, fuelOf(i) - used);
            }
        }

        private boolean wasSound(int thruster) {
            return (soundMask >> thruster & 1) == 1;
        }

        private boolean isImpulse(int thruster, int ticks, int x, int y, int turn) {
            return ticks * unitPart(thruster, 0) == x && ticks * unitPart(thruster, 1) == y
                && ticks * unitPart(thruster, 2) == turn;
        }

        /** The first sound thruster whose pulse, left out, explains what was measured beyond the delivered impulse, or -1. */
        int firstSilent(int x, int y, int turn) {
            for (int i = 0; i < thrusterCount; i++) {
                if (wasSound(i) && pulses[i] > 0 && isImpulse(i, -pulses[i], x, y, turn)) {
                    return i;
                }
            }
            return -1;
        }

        /** The first sound thruster that explains it by firing throughout the cycle, or -1. */
        int firstSteady(int x, int y, int turn) {
            for (int i = 0; i < thrusterCount; i++) {
                if (wasSound(i) && pulses[i] < TICKS && isImpulse(i, TICKS - pulses[i], x, y, turn)) {
                    return i;
                }
            }
            return -1;
        }
    }

    /** A ring of the latest states. */
    private static final class History {
        private final State[] states = new State[MOST_STATES];
        private int oldest;
        private int count;

        History() {
            for (int k = 0; k < MOST_STATES; k++) {
                states[k] = new State();
            }
        }

        void keep(State state) {
            states[(oldest + count) % MOST_STATES].copyFrom(state);
            if (count < MOST_STATES) {
                count++;
            } else {
                oldest = (oldest + 1) % MOST_STATES;
            }
        }

        void restore(State state) {
            if (count > 0) {
                count--;
                state.copyFrom(states[(oldest + count) % MOST_STATES]);
            }
        }
    }

    /** The selection for a target; its fractions share one denominator, so that they stay exact. */
    private static final class Selection {
        private static final int TARGET_ROW = MOST_THRUSTERS;

        private final int[][] units = new int[MOST_THRUSTERS + 1][PARTS];
        private final int[] tickPrices = new int[MOST_THRUSTERS];
        private final long[] shares = new long[MOST_THRUSTERS];
        private long denominator = 1;
        private long cost;
        private int mask;
        private int running;
        private boolean found;

        void readThrusters(State state) {
            running = state.runningMask();
            for (int i = 0; i < state.thrusterCount; i++) {
                tickPrices[i] = state.priceOfTick(i);
                for (int part = 0; part < PARTS; part++) {
                    units[i][part] = state.unitPart(i, part);
                }
            }
        }

        long determinantOf(int one, int two, int three) {
            int[] u = units[one];
            int[] v = units[two];
            int[] w = units[three];
            long first = (long) v[1] * w[2] - (long) v[2] * w[1];
            long second = (long) v[0] * w[2] - (long) v[2] * w[0];
            long third = (long) v[0] * w[1] - (long) v[1] * w[0];
            return u[0] * first - u[1] * second + u[2] * third;
        }

        void find(State state, int tx, int ty, int tt) {
            clear();
            if (tx == 0 && ty == 0 && tt == 0) {
                found = true;
                return;
            }
            readThrusters(state);
            units[TARGET_ROW][0] = tx;
            units[TARGET_ROW][1] = ty;
            units[TARGET_ROW][2] = tt;
            for (int a = 0; a < state.thrusterCount; a++) {
                for (int b = a + 1; b < state.thrusterCount; b++) {
                    for (int c = b + 1; c < state.thrusterCount; c++) {
                        if (state.isUsable(a) && state.isUsable(b) && state.isUsable(c)) {
                            consider(state, a, b, c);
                        }
                    }
                }
            }
        }

        private void clear() {
            found = false;
            mask = 0;
            cost = 0;
            denominator = 1;
            Arrays.fill(shares, 0L);
        }

        /** Cramer's rule: each W is a quotient of two determinants. */
        private void consider(State state, int a, int b, int c) {
            long whole = determinantOf(a, b, c);
            if (whole == 0) {
                return;
            }
            int sign = whole < 0 ? -1 : 1;
            whole *= sign;
            long shareA = sign * determinantOf(TARGET_ROW, b, c);
            long shareB = sign * determinantOf(a, TARGET_ROW, c);
            long shareC = sign * determinantOf(a, b, TARGET_ROW);
            if (!isPossible(shareA, whole) || !isPossible(shareB, whole) || !isPossible(shareC, whole)) {
                return;
            }
            int set = bitIf(shareA > 0, a) | bitIf(shareB > 0, b) | bitIf(shareC > 0, c);
            if (state.forbids(set | running)) {
                return;
            }
            long sum = shareA * tickPrices[a] + shareB * tickPrices[b] + shareC * tickPrices[c];
            if (found && !isBetter(sum, whole, set)) {
                return;
            }
            clear();
            found = true;
            mask = set;
            cost = sum;
            denominator = whole;
            shares[a] = shareA;
            shares[b] = shareB;
            shares[c] = shareC;
        }

        private static boolean isPossible(long share, long whole) {
            return share >= 0 && share <= TICKS * whole;
        }

        private static int bitIf(boolean isSet, int thruster) {
            return isSet ? 1 << thruster : 0;
        }

        private boolean isBetter(long sum, long whole, int set) {
            long mine = cost * whole;
            long other = sum * denominator;
            return other < mine || other == mine && set < mask;
        }

        int pulseOf(int thruster, int least) {
            long share = shares[thruster];
            if (share <= 0 || denominator <= 0) {
                return 0;
            }
            int rounded = (int) ((2 * share + denominator) / (2 * denominator));
            if (rounded >= least) {
                return rounded;
            }
            return 2 * share >= least * denominator ? least : 0;
        }

        int thousandths() {
            return denominator > 0 ? (int) (1000 * cost / denominator) : 0;
        }
    }

    /** The typed bytes, and the requests that the latest reading found in them. */
    private static final class Text {
        private final int[] bytes = new int[MOST_BYTES];
        private final int[] parts = new int[MOST_REQUESTS * PARTS];
        private final boolean[] urgent = new boolean[MOST_REQUESTS];
        private int length;
        private int readCount;
        private int at;
        private int fault = NONE;

        boolean append(int code) {
            if (length >= MOST_BYTES) {
                return false;
            }
            bytes[length] = code;
            length++;
            return true;
        }

        /** Reads the text for a queue with so much room; answers its fault, or NONE. */
        int read(int room) {
            at = 0;
            readCount = 0;
            fault = NONE;
            for (int k = 0; k <= MOST_REQUESTS; k++) {
                readRequest(Math.min(room, MOST_REQUESTS));
                skipBlanks();
                if (fault != NONE || at >= length) {
                    return fault;
                }
                if (!accept(';')) {
                    return at;
                }
            }
            return at;
        }

        private void readRequest(int room) {
            skipBlanks();
            if (readCount >= room) {
                fault = at;
                return;
            }
            boolean first = accept('!');
            for (int part = 0; part < PARTS && fault == NONE; part++) {
                if (part > 0 && !accept(',')) {
                    fault = at;
                    return;
                }
                parts[readCount * PARTS + part] = readSigned();
            }
            urgent[readCount] = first;
            readCount++;
        }

        private int readSigned() {
            boolean negative = accept('-');
            skipBlanks();
            int value = readNumber();
            return negative ? -value : value;
        }

        private int readNumber() {
            int start = at;
            int value = 0;
            while (at < length && isDigit(bytes[at])) {
                value = value * 10 + bytes[at] - '0';
                at++;
            }
            int digits = at - start;
            if (digits == 0 || digits > MOST_DIGITS || value > LARGEST_REQUEST) {
                fault = start;
            }
            return value;
        }

        private static boolean isDigit(int code) {
            return code >= '0' && code <= '9';
        }

        /** Goes past blanks, and past the sign behind them if it is this one. */
        private boolean accept(char sign) {
            skipBlanks();
            if (at >= length || bytes[at] != sign) {
                return false;
            }
            at++;
            return true;
        }

        private void skipBlanks() {
            while (at < length && bytes[at] == ' ') {
                at++;
            }
        }
    }
}
