/** Each sentence of the document about thrusters, tanks and forbidden sets that names a boundary. */
public final class ThrusterEdgesTest {
    private static final int[] FAR = {Integer.MIN_VALUE, Integer.MIN_VALUE + 1, Integer.MAX_VALUE - 1, Integer.MAX_VALUE};
    private static final int[] SETS = {3, 5, 6, 9, 10, 12, 7, 15};

    public static void main(String[] args) {
        newObject();
        mostThrusters();
        place();
        direction();
        strength();
        tank();
        least();
        soundAtFirst();
        states();
        unitImpulse();
        fuelUsed();
        ticksOfACycle();
        unitsOfATank();
        running();
        usable();
        mostSets();
        leastSet();
        withTheRunning();
        addOrder();
        stateOrder();
        propertyRange();
        partRange();
        determinantRange();
        refuelRange();
        fuelRange();
        forbidRange();
        forbiddenAlready();
        fullOfSets();
        notOneOfThem();
        maskRange();
        Checks.end();
    }


    /** Adds a thruster whose argument k is this value, the others being in range. */
    private static int addWith(ThrusterSelector body, int k, int value) {
        int[] a = {0, 0, 0, 1, 0, 1};
        a[k] = value;
        return body.addThruster(a[0], a[1], a[2], a[3], a[4], a[5]);
    }

    /** The lowest and the highest value are taken and kept; those beside them, and far ones, are refused. */
    private static void argument(int k, int low, int high, int error) {
        for (int value = low; value <= high; value++) {
            ThrusterSelector body = new ThrusterSelector();
            Checks.due("argument " + k + " is " + value, addWith(body, k, value), 0);
            Checks.due("property " + k, body.thruster(0, k), value);
        }
        int[] bad = {low - 1, high + 1, FAR[0], FAR[1], FAR[2], FAR[3]};
        for (int value : bad) {
            Checks.refused("argument " + k + " is " + value, ThrusterSelector::new, error, b -> addWith(b, k, value));
        }
    }

    private static ThrusterSelector many(int count) {
        ThrusterSelector body = new ThrusterSelector();
        for (int k = 0; k < count; k++) {
            body.addThruster(k, -k, k % 4, 1 + k, k % 2, 1 + k);
        }
        return body;
    }

    private static void newObject() {
        Checks.sentence("Creates a body without thrusters, with full tanks, an empty queue, no forbidden sets, and an empty text.");
        ThrusterSelector body = new ThrusterSelector();
        Checks.due("thrusters", body.thrusters(), 0);
        Checks.due("fuel(0)", body.fuel(0), 100000);
        Checks.due("fuel(1)", body.fuel(1), 100000);
        Checks.due("queued", body.queued(), 0);
        Checks.due("isForbidden(255)", body.isForbidden(255), 0);
        for (int set = 0; set < 256; set++) {
            Checks.due("allow " + set, body.allow(set), Checks.BAD_STATE);
        }
        Checks.due("textFault", body.textFault(), 0);
        Checks.due("clearText", body.clearText(), 0);
        Checks.due("undo", body.undo(), Checks.BAD_STATE);
        Checks.due("cycleCount", body.cycleCount(), 0);
    }

    private static void mostThrusters() {
        Checks.sentence("There are at most 8 thrusters, numbered from 0.");
        ThrusterSelector body = new ThrusterSelector();
        for (int k = 0; k < 8; k++) {
            Checks.due("the number", body.addThruster(k, -k, k % 4, 1 + k, k % 2, 1 + k), k);
            Checks.due("thrusters", body.thrusters(), k + 1);
            Checks.due("the next one", body.thruster(k + 1, 0), Checks.BAD_INDEX);
        }
        for (int k = 0; k < 8; k++) {
            Checks.due("x of " + k, body.thruster(k, 0), k);
            Checks.due("least pulse of " + k, body.thruster(k, 5), 1 + k);
        }
        Checks.refused("the ninth", () -> many(8), Checks.FULL, b -> b.addThruster(0, 0, 0, 1, 0, 1));
        body.undo();
        Checks.due("the eighth again", body.addThruster(0, 0, 0, 1, 0, 1), 7);
    }

    private static void place() {
        Checks.sentence("A thruster has a place (x, y), -10 to 10 each");
        argument(0, -10, 10, Checks.BAD_VALUE);
        argument(1, -10, 10, Checks.BAD_VALUE);
    }

    private static void direction() {
        Checks.sentence("a direction, 0 to 3");
        argument(2, 0, 3, Checks.BAD_VALUE);
    }

    private static void strength() {
        Checks.sentence("a strength f, 1 to 10");
        argument(3, 1, 10, Checks.BAD_VALUE);
    }

    private static void tank() {
        Checks.sentence("a tank, 0 or 1");
        argument(4, 0, 1, Checks.BAD_INDEX);
    }

    private static void least() {
        Checks.sentence("and a least pulse, 1 to");
        argument(5, 1, 10, Checks.BAD_VALUE);
    }

    private static void soundAtFirst() {
        Checks.sentence("it is sound at first.");
        ThrusterSelector body = many(1);
        body.setState(0, 2);
        body.addThruster(0, 0, 0, 1, 0, 1);
        Checks.due("a new one", body.thruster(1, 6), 0);
        body.setState(1, 1);
        body.undo();
        body.undo();
        body.addThruster(0, 0, 0, 1, 0, 1);
        Checks.due("one in the place of another", body.thruster(1, 6), 0);
    }

    private static void states() {
        Checks.sentence("It is sound (0), or failed and never fires (1), or failed and always fires (2)");
        int[] fires = {0, 0, 20};
        for (int state = 0; state < 3; state++) {
            ThrusterSelector body = Checks.axes(1, 1);
            body.setState(0, state);
            body.cycle();
            Checks.due("x without a request, state " + state, body.impulse(1, 0), fires[state]);
            Checks.due("fuel, state " + state, body.fuel(0), 100000 - fires[state]);
            Checks.due("select, state " + state, body.select(3, 0, 0), state == 0 ? 1 : Checks.NONE);
        }
        int[] bad = {-1, 3, FAR[0], FAR[3]};
        for (int state : bad) {
            Checks.refused("state " + state, () -> many(2), Checks.BAD_VALUE, b -> b.setState(1, state));
        }
    }

    private static void unitImpulse() {
        Checks.sentence("The unit impulse of a thruster is (f * dx, f * dy, f * (x * dy - y * dx)).");
        for (int x = -10; x <= 10; x += 5) {
            for (int y = -10; y <= 10; y += 5) {
                for (int direction = 0; direction < 4; direction++) {
                    int[] dx = {1, 0, -1, 0};
                    int[] dy = {0, 1, 0, -1};
                    ThrusterSelector body = Checks.rows(new int[] {x, y, direction, 10});
                    String at = "(" + x + ", " + y + "), direction " + direction + ", part ";
                    Checks.due(at + 0, body.unit(0, 0), 10 * dx[direction]);
                    Checks.due(at + 1, body.unit(0, 1), 10 * dy[direction]);
                    Checks.due(at + 2, body.unit(0, 2), 10 * (x * dy[direction] - y * dx[direction]));
                }
            }
        }
    }

    private static void fuelUsed() {
        Checks.sentence("If it fires for w ticks, it delivers w times its unit impulse, and uses w * f units of fuel of its tank.");
        for (int f = 1; f <= 10; f++) {
            ThrusterSelector body = Checks.axes(f, 1);
            body.request(20 * f, 0, 0);
            body.request(f, 0, 0);
            body.cycle();
            Checks.due("f = " + f + ", 20 ticks", body.fuel(0), 100000 - 20 * f);
            Checks.due("f = " + f + ", 20 ticks, x", body.impulse(1, 0), 20 * f);
            body.cycle();
            Checks.due("f = " + f + ", one tick", body.fuel(0), 100000 - 21 * f);
            Checks.due("f = " + f + ", one tick, x", body.impulse(1, 0), f);
            Checks.due("f = " + f + ", the other tank", body.fuel(1), 100000);
        }
    }

    private static void ticksOfACycle() {
        Checks.sentence("A cycle has 20 ticks.");
        ThrusterSelector body = Checks.axes(1, 1);
        Checks.due("20 ticks", body.pulse(20, 0, 0, 0), 20);
        Checks.due("21 ticks", body.pulse(21, 0, 0, 0), Checks.NONE);
    }

    private static void unitsOfATank() {
        Checks.sentence("A tank has 0 to 100000 units (100000 at first).");
        ThrusterSelector body = new ThrusterSelector();
        for (int tank = 0; tank < 2; tank++) {
            Checks.due("at first", body.fuel(tank), 100000);
            Checks.due("to 0", body.refuel(tank, 0), 100000);
            Checks.due("is 0", body.fuel(tank), 0);
            Checks.due("to 1", body.refuel(tank, 1), 0);
            Checks.due("to 99999", body.refuel(tank, 99999), 1);
            Checks.due("to 100000", body.refuel(tank, 100000), 99999);
            Checks.due("is 100000", body.fuel(tank), 100000);
        }
    }

    private static void running() {
        Checks.sentence("A thruster is running if its state is 2 and its tank has at least 20 * f units.");
        for (int f = 1; f <= 10; f++) {
            for (int tank = 0; tank < 2; tank++) {
                ThrusterSelector body = new ThrusterSelector();
                body.addThruster(0, 0, 0, f, tank, 1);
                body.setState(0, 2);
                body.refuel(tank, 20 * f);
                body.refuel(1 - tank, 0);
                String call = "f = " + f + ", tank " + tank + ", ";
                Checks.due(call + "just enough", body.thruster(0, 8), 1);
                body.setState(0, 0);
                Checks.due(call + "state 0", body.thruster(0, 8), 0);
                body.setState(0, 1);
                Checks.due(call + "state 1", body.thruster(0, 8), 0);
                body.setState(0, 2);
                body.refuel(tank, 20 * f - 1);
                body.refuel(1 - tank, 100000);
                Checks.due(call + "one unit less", body.thruster(0, 8), 0);
                body.cycle();
                Checks.due(call + "it does not fire", body.impulse(1, 0), 0);
                body.refuel(tank, 20 * f);
                body.cycle();
                Checks.due(call + "it fires", body.impulse(1, 0), 20 * f);
                Checks.due(call + "it used all", body.fuel(tank), 0);
            }
        }
    }

    private static void usable() {
        Checks.sentence("It is usable if its state is 0 and its tank has at least 600 units.");
        for (int tank = 0; tank < 2; tank++) {
            ThrusterSelector body = new ThrusterSelector();
            body.addThruster(0, 0, 0, 1, tank, 1);
            body.addThruster(0, 0, 1, 1, tank, 1);
            body.addThruster(1, 0, 1, 1, tank, 1);
            body.refuel(1 - tank, 0);
            body.refuel(tank, 600);
            Checks.due("600 units", body.thruster(0, 7), 1);
            Checks.due("select with 600 units", body.select(1, 0, 0), 1);
            body.setState(0, 1);
            Checks.due("600 units, state 1", body.thruster(0, 7), 0);
            body.setState(0, 2);
            Checks.due("600 units, state 2", body.thruster(0, 7), 0);
            body.setState(0, 0);
            body.refuel(1 - tank, 100000);
            body.refuel(tank, 599);
            Checks.due("599 units", body.thruster(0, 7), 0);
            Checks.due("select with 599 units", body.select(1, 0, 0), Checks.NONE);
        }
    }

    private static ThrusterSelector withSets(int count) {
        ThrusterSelector body = many(4);
        for (int k = 0; k < count; k++) {
            Checks.due("forbid " + SETS[k], body.forbid(SETS[k]), k + 1);
        }
        return body;
    }

    private static void mostSets() {
        Checks.sentence("There are at most 8 forbidden sets of thrusters");
        Checks.refused("the ninth set", () -> withSets(8), Checks.FULL, b -> b.forbid(11));
        ThrusterSelector body = withSets(8);
        for (int left = 7; left >= 0; left--) {
            Checks.due("allow " + SETS[left], body.allow(SETS[left]), left);
        }
        Checks.due("none is left", body.isForbidden(255), 0);
    }

    private static void leastSet() {
        Checks.sentence("each with at least two");
        for (int k = 0; k < 8; k++) {
            int one = 1 << k;
            Checks.refused("forbid " + one, () -> many(8), Checks.BAD_VALUE, b -> b.forbid(one));
            for (int j = 0; j < k; j++) {
                Checks.due("forbid " + (one | 1 << j), many(8).forbid(one | 1 << j), 1);
            }
        }
        Checks.refused("forbid 0", () -> many(8), Checks.BAD_VALUE, b -> b.forbid(0));
        Checks.due("forbid all eight", many(8).forbid(255), 1);
    }

    private static void withTheRunning() {
        Checks.sentence("a set of thrusters that are to fire is forbidden if it, together with all running thrusters, contains all thrusters"
            + " of a forbidden set (so if the running ones alone contain one, each set is forbidden, also the empty one).");
        for (int running = 0; running < 16; running++) {
            ThrusterSelector body = new ThrusterSelector();
            for (int k = 0; k < 4; k++) {
                body.addThruster(0, 0, 0, 1, 0, 1);
            }
            body.forbid(7);
            body.forbid(12);
            for (int k = 0; k < 4; k++) {
                body.setState(k, (running >> k) % 2 * 2);
            }
            for (int set = 0; set < 256; set++) {
                int fires = set | running;
                boolean forbidden = fires % 8 == 7 || fires / 4 % 4 == 3;
                Checks.due("running " + running + ", set " + set, body.isForbidden(set), forbidden ? 1 : 0);
            }
        }
    }

    private static void addOrder() {
        Checks.sentence("Returns its number; BAD_INDEX if there is no such tank; BAD_VALUE if another argument is out of range; FULL if there are 8 thrusters.");
        int[] tanks = {-1, 2, FAR[0], FAR[3]};
        for (int tank : tanks) {
            Checks.refused("tank " + tank + ", when full", () -> many(8), Checks.BAD_INDEX, b -> b.addThruster(0, 0, 0, 1, tank, 1));
            Checks.refused("tank " + tank + " and bad x", () -> many(8), Checks.BAD_INDEX, b -> b.addThruster(11, 0, 0, 1, tank, 1));
            Checks.refused("tank " + tank + " and bad least", () -> many(1), Checks.BAD_INDEX, b -> b.addThruster(0, 0, 0, 1, tank, 0));
        }
        int[][] bad = {{0, 11}, {1, -11}, {2, 4}, {3, 0}, {5, 11}};
        for (int[] row : bad) {
            Checks.refused("bad value, when full", () -> many(8), Checks.BAD_VALUE, b -> addWith(b, row[0], row[1]));
        }
        Checks.refused("full", () -> many(8), Checks.FULL, b -> addWith(b, 0, 10));
    }

    private static void stateOrder() {
        Checks.sentence("Returns the previous state; BAD_INDEX if there is no such thruster; BAD_VALUE if state is out of range.");
        int[] bad = {-1, 2, 8, FAR[0], FAR[3]};
        for (int thruster : bad) {
            Checks.refused("thruster " + thruster, () -> many(2), Checks.BAD_INDEX, b -> b.setState(thruster, 0));
            Checks.refused("thruster " + thruster + ", state 3", () -> many(2), Checks.BAD_INDEX, b -> b.setState(thruster, 3));
        }
        Checks.refused("no thruster at all", ThrusterSelector::new, Checks.BAD_INDEX, b -> b.setState(0, 0));
        ThrusterSelector body = many(2);
        int[] states = {2, 1, 1, 0, 2, 0, 1, 2, 2};
        int previous = 0;
        for (int state : states) {
            Checks.due("to " + state, body.setState(1, state), previous);
            previous = state;
        }
        Checks.due("the other one", body.thruster(0, 6), 0);
    }

    private static void propertyRange() {
        Checks.sentence("Returns the property; BAD_INDEX if there is no such thruster; BAD_VALUE if what is out of range.");
        int[] bad = {-1, 2, 8, FAR[0], FAR[3]};
        for (int thruster : bad) {
            Checks.refused("thruster " + thruster, () -> many(2), Checks.BAD_INDEX, b -> b.thruster(thruster, 0));
            Checks.refused("thruster " + thruster + ", what 9", () -> many(2), Checks.BAD_INDEX, b -> b.thruster(thruster, 9));
        }
        int[] badWhat = {-1, 9, FAR[0], FAR[3]};
        for (int what : badWhat) {
            Checks.refused("what " + what, () -> many(2), Checks.BAD_VALUE, b -> b.thruster(1, what));
        }
        ThrusterSelector body = many(8);
        int[] last = {7, -7, 3, 8, 1, 8, 0, 1, 0};
        for (int what = 0; what <= 8; what++) {
            Checks.due("what " + what, body.thruster(7, what), last[what]);
        }
    }

    private static void partRange() {
        Checks.sentence("Returns the part; BAD_INDEX if there is no such thruster or part.");
        int[] bad = {-1, 3, FAR[0], FAR[3]};
        for (int value : bad) {
            Checks.refused("part " + value, () -> many(3), Checks.BAD_INDEX, b -> b.unit(2, value));
            Checks.refused("thruster " + value, () -> many(3), Checks.BAD_INDEX, b -> b.unit(value, 2));
            Checks.refused("both " + value, () -> many(3), Checks.BAD_INDEX, b -> b.unit(value, value));
        }
        Checks.due("the last one", many(3).unit(2, 0), -3);
        Checks.due("the first one", many(3).unit(0, 0), 1);
    }

    private static void determinantRange() {
        Checks.sentence("Returns the determinant; BAD_INDEX if there is no such thruster (any of them).");
        int[] bad = {-1, 3, FAR[0], FAR[3]};
        for (int value : bad) {
            Checks.refused("one is " + value, () -> many(3), Checks.BAD_INDEX, b -> b.determinant(value, 1, 2));
            Checks.refused("two is " + value, () -> many(3), Checks.BAD_INDEX, b -> b.determinant(0, value, 2));
            Checks.refused("three is " + value, () -> many(3), Checks.BAD_INDEX, b -> b.determinant(0, 1, value));
            Checks.refused("all are " + value, () -> many(3), Checks.BAD_INDEX, b -> b.determinant(value, value, value));
        }
        ThrusterSelector body = Checks.rows(new int[] {0, 10, 0, 10}, new int[] {10, 0, 1, 10}, new int[] {0, -10, 0, 10});
        int[][] rows = {{0, 1, 2, 20000}, {0, 2, 1, -20000}, {1, 2, 0, 20000}, {1, 0, 2, -20000}, {2, 0, 1, 20000}, {2, 1, 0, -20000}};
        for (int[] r : rows) {
            Checks.due("the largest, " + r[0] + r[1] + r[2], body.determinant(r[0], r[1], r[2]), r[3]);
        }
        for (int k = 0; k < 3; k++) {
            Checks.due("twice " + k, body.determinant(k, k, (k + 1) % 3), 0);
            Checks.due("three times " + k, body.determinant(k, k, k), 0);
        }
    }

    private static void refuelRange() {
        Checks.sentence("Returns the previous fuel; BAD_INDEX if there is no such tank; BAD_VALUE if units is out of range.");
        int[] bad = {-1, 100001, FAR[0], FAR[3]};
        for (int units : bad) {
            Checks.refused("units " + units, () -> many(1), Checks.BAD_VALUE, b -> b.refuel(1, units));
            Checks.refused("tank 2, units " + units, () -> many(1), Checks.BAD_INDEX, b -> b.refuel(2, units));
        }
        int[] badTank = {-1, 2, FAR[0], FAR[3]};
        for (int tank : badTank) {
            Checks.refused("tank " + tank, () -> many(1), Checks.BAD_INDEX, b -> b.refuel(tank, 0));
        }
    }

    private static void fuelRange() {
        Checks.sentence("Returns the units; BAD_INDEX if there is no such tank.");
        int[] bad = {-1, 2, FAR[0], FAR[3]};
        for (int tank : bad) {
            Checks.refused("tank " + tank, () -> many(1), Checks.BAD_INDEX, b -> b.fuel(tank));
        }
        ThrusterSelector body = new ThrusterSelector();
        body.refuel(0, 0);
        body.refuel(1, 1);
        Checks.due("tank 0", body.fuel(0), 0);
        Checks.due("tank 1", body.fuel(1), 1);
    }

    private static void forbidRange() {
        Checks.sentence("BAD_VALUE if it is not a set of at least two thrusters that there are");
        int[] bad = {-1, 0, 1, 4, 8, 9, 15, 255, 256, 259, FAR[0], FAR[0] + 3, FAR[3]};
        for (int set : bad) {
            Checks.refused("forbid " + set + " of three", () -> many(3), Checks.BAD_VALUE, b -> b.forbid(set));
            Checks.refused("forbid " + set + " of none", ThrusterSelector::new, Checks.BAD_VALUE, b -> b.forbid(set));
        }
        int[] bad8 = {-1, 256, 257, 511, 259, FAR[0], FAR[0] + 3, FAR[3]};
        for (int set : bad8) {
            Checks.refused("forbid " + set + " of eight", () -> many(8), Checks.BAD_VALUE, b -> b.forbid(set));
        }
        Checks.refused("forbid 3 of one", () -> many(1), Checks.BAD_VALUE, b -> b.forbid(3));
        Checks.due("forbid 3 of two", many(2).forbid(3), 1);
        Checks.due("forbid 7 of three", many(3).forbid(7), 1);
        Checks.due("forbid 192 of eight", many(8).forbid(192), 1);
        Checks.refused("a bad one, when full", () -> withSets(8), Checks.BAD_VALUE, b -> b.forbid(16));
    }

    private static void forbiddenAlready() {
        Checks.sentence("BAD_STATE if it is forbidden already");
        for (int set : SETS) {
            Checks.refused("forbid " + set + " again, when full", () -> withSets(8), Checks.BAD_STATE, b -> b.forbid(set));
        }
        Checks.refused("forbid 3 again", () -> withSets(1), Checks.BAD_STATE, b -> b.forbid(3));
        ThrusterSelector body = withSets(2);
        Checks.due("another one that holds both", body.forbid(7), 3);
        Checks.due("another one that is held", body.forbid(6), 4);
        body.allow(5);
        Checks.due("one that was allowed again", body.forbid(5), 4);
    }

    private static void fullOfSets() {
        Checks.sentence("FULL if there are 8.");
        Checks.due("the eighth", withSets(7).forbid(11), 8);
        Checks.refused("the ninth", () -> withSets(8), Checks.FULL, b -> b.forbid(14));
        ThrusterSelector body = withSets(8);
        body.allow(3);
        Checks.due("the eighth again", body.forbid(14), 8);
    }

    private static void notOneOfThem() {
        Checks.sentence("Returns the number of forbidden sets that are left; BAD_STATE if it is not one of them.");
        int[] bad = {-1, 0, 1, 6, 7, 13, 255, 256, FAR[0], FAR[3]};
        for (int set : bad) {
            Checks.refused("allow " + set, () -> withSets(2), Checks.BAD_STATE, b -> b.allow(set));
            Checks.refused("allow " + set + ", without sets", () -> many(3), Checks.BAD_STATE, b -> b.allow(set));
        }
        int[] order = {15, 3, 9, 7, 5, 12, 10, 6};
        ThrusterSelector body = withSets(8);
        for (int k = 0; k < order.length; k++) {
            Checks.due("allow " + order[k], body.allow(order[k]), 7 - k);
            Checks.due("allow " + order[k] + " again", body.allow(order[k]), Checks.BAD_STATE);
        }
    }

    private static void maskRange() {
        Checks.sentence("Returns 1 if it is, else 0; BAD_VALUE if set is out of range.");
        int[] bad = {-1, 256, FAR[0], FAR[0] + 3, FAR[3]};
        for (int set : bad) {
            Checks.refused("isForbidden " + set, () -> withSets(1), Checks.BAD_VALUE, b -> b.isForbidden(set));
        }
        for (int set = 0; set < 256; set++) {
            Checks.due("isForbidden " + set, withSets(1).isForbidden(set), set % 4 == 3 ? 1 : 0);
            Checks.due("isForbidden " + set + " without thrusters", new ThrusterSelector().isForbidden(set), 0);
        }
    }
}
