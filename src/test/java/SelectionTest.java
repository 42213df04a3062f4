/** Promises 10 to 15. */
public final class SelectionTest {
    public static void main(String[] args) {
        forbid();
        fullOfSets();
        isForbidden();
        select();
        lowestMask();
        usable();
        forbiddenSelection();
        pulse();
        price();
        wrongTargets();
        Checks.end();
    }

    private static void forbid() {
        ThrusterSelector body = Checks.pairs();
        int[] bad = {-1, 0, 1, 2, 4, 8, 16, 17, 31, 255, 256, 259, Integer.MIN_VALUE, Integer.MAX_VALUE, -13};
        for (int set : bad) {
            Checks.due("10 forbid " + set, body.forbid(set), Checks.BAD_VALUE);
            Checks.due("11 allow " + set, body.allow(set), Checks.BAD_STATE);
        }
        Checks.due("10 forbid 15", body.forbid(15), 1);
        Checks.due("10 forbid 15 again", body.forbid(15), Checks.BAD_STATE);
        Checks.due("10 forbid 3", body.forbid(3), 2);
        Checks.due("10 forbid 3 again", body.forbid(3), Checks.BAD_STATE);
        Checks.due("10 a set that holds a forbidden one", body.forbid(7), 3);
        Checks.due("11 allow 12", body.allow(12), Checks.BAD_STATE);
        Checks.due("11 allow 15", body.allow(15), 2);
        Checks.due("11 allow 15 again", body.allow(15), Checks.BAD_STATE);
        Checks.due("11 the others stay", body.isForbidden(3), 1);
        Checks.due("11 allow 3", body.allow(3), 1);
        Checks.due("11 only 7 stays", body.isForbidden(11), 0);
        Checks.due("11 is recorded", body.undo(), 4);
        Checks.due("11 is undone", body.isForbidden(11), 1);
        Checks.due("10 errors record nothing", body.undo(), 3);
        body.undo();
        Checks.due("10 is undone", body.allow(7), Checks.BAD_STATE);
    }

    private static void fullOfSets() {
        ThrusterSelector body = Checks.pairs();
        int[] sets = {3, 5, 6, 9, 10, 12, 7, 11};
        for (int k = 0; k < sets.length; k++) {
            Checks.due("10 forbid " + sets[k], body.forbid(sets[k]), k + 1);
        }
        Checks.due("10 the ninth set", body.forbid(13), Checks.FULL);
        Checks.due("10 a forbidden one, when full", body.forbid(11), Checks.BAD_STATE);
        Checks.due("10 a bad one, when full", body.forbid(1), Checks.BAD_VALUE);
        Checks.due("11 the last one", body.allow(11), 7);
        Checks.due("10 there is room again", body.forbid(13), 8);
    }

    private static void isForbidden() {
        ThrusterSelector body = Checks.pairs();
        body.forbid(6);
        Checks.due("12 itself", body.isForbidden(6), 1);
        Checks.due("12 with others", body.isForbidden(255), 1);
        Checks.due("12 a part", body.isForbidden(4), 0);
        Checks.due("12 another", body.isForbidden(9), 0);
        Checks.due("12 of thrusters that there are not", body.isForbidden(240), 0);
        Checks.due("12 -1", body.isForbidden(-1), Checks.BAD_VALUE);
        Checks.due("12 256", body.isForbidden(256), Checks.BAD_VALUE);
        body.setState(1, 2);
        Checks.due("12 with a running one", body.isForbidden(4), 1);
        Checks.due("12 without the other one", body.isForbidden(0), 0);
        body.setState(2, 2);
        Checks.due("12 the running ones alone", body.isForbidden(0), 1);
        body.refuel(1, 79);
        Checks.due("12 one runs no more", body.isForbidden(0), 0);
        body.refuel(1, 80);
        Checks.due("12 it runs again", body.isForbidden(0), 1);
        body.setState(1, 1);
        Checks.due("12 failed, and never fires", body.isForbidden(0), 0);
    }

    private static void select() {
        ThrusterSelector body = Checks.pairs();
        Checks.due("13 nothing", body.select(0, 0, 0), 0);
        Checks.due("13 both along y", body.select(0, 40, 0), 3);
        Checks.due("13 against y", body.select(0, -40, 0), Checks.NONE);
        Checks.due("13 three", body.select(9, 44, 11), 7);
        Checks.due("13 one", body.select(0, 4, 20), 1);
        Checks.due("13 20 ticks", body.select(0, 160, 0), 3);
        Checks.due("13 more than 20 ticks", body.select(0, 161, 0), Checks.NONE);
        Checks.due("13 the farthest", body.select(40000, 40000, -40000), Checks.NONE);
        ThrusterSelector few = new ThrusterSelector();
        Checks.due("13 without thrusters", few.select(1, 0, 0), Checks.NONE);
        Checks.due("13 nothing, without thrusters", few.select(0, 0, 0), 0);
        few.addThruster(0, 0, 0, 1, 0, 1);
        few.addThruster(0, 0, 1, 1, 0, 1);
        Checks.due("13 with two thrusters", few.select(1, 0, 0), Checks.NONE);
        few.addThruster(0, 0, 2, 1, 0, 1);
        Checks.due("13 determinant 0", few.select(1, 0, 0), Checks.NONE);
        ThrusterSelector axes = Checks.axes(10, 1);
        Checks.due("13 W is a tenth", axes.select(1, 0, 0), 1);
        Checks.due("13 W below 0", axes.select(0, 3, 4), Checks.NONE);
        Checks.due("13 W is 0", axes.select(0, 4, 4), 4);
    }

    private static void lowestMask() {
        ThrusterSelector body = new ThrusterSelector();
        body.addThruster(1, 0, 1, 1, 0, 1);
        body.addThruster(2, 0, 1, 1, 0, 1);
        body.addThruster(-2, 0, 1, 1, 0, 1);
        body.addThruster(0, 0, 0, 1, 0, 1);
        body.addThruster(-1, 0, 1, 1, 0, 1);
        Checks.due("13 the lowest of four", body.select(0, 2, 0), 5);
        Checks.due("14 its W is 4 / 3", body.pulse(0, 2, 0, 0), 1);
        body.forbid(5);
        Checks.due("13 the lowest of three", body.select(0, 2, 0), 6);
        body.forbid(6);
        Checks.due("13 the lowest of two", body.select(0, 2, 0), 17);
        body.forbid(17);
        Checks.due("13 the last one", body.select(0, 2, 0), 18);
        body.forbid(18);
        Checks.due("13 none is left", body.select(0, 2, 0), Checks.NONE);
    }

    private static void usable() {
        ThrusterSelector body = Checks.axes(1, 1);
        body.addThruster(0, 0, 0, 5, 1, 1);
        Checks.due("13 the first of equals", body.select(5, 0, 0), 1);
        body.refuel(0, 99999);
        Checks.due("13 fuel of the fuller tank", body.select(5, 0, 0), 8);
        Checks.due("14 one that is not selected", body.pulse(5, 0, 0, 0), 0);
        Checks.due("14 one that is selected", body.pulse(5, 0, 0, 3), 1);
        body.refuel(1, 99998);
        Checks.due("13 of the other tank", body.select(5, 0, 0), 1);
        body.setState(0, 1);
        Checks.due("13 a failed one is left out", body.select(5, 0, 0), 8);
        body.setState(0, 2);
        Checks.due("13 a running one, too", body.select(5, 0, 0), 8);
        Checks.due("14 that it fires is no pulse", body.pulse(5, 0, 0, 0), 0);
        body.refuel(1, 599);
        Checks.due("13 a tank that is too empty", body.select(5, 0, 0), Checks.NONE);
        body.refuel(1, 600);
        Checks.due("13 a tank that just holds enough", body.select(5, 0, 0), 8);
        body.setState(1, 1);
        Checks.due("13 also those with W 0 are usable", body.select(5, 0, 0), Checks.NONE);
    }

    private static void forbiddenSelection() {
        ThrusterSelector body = Checks.axes(1, 1);
        body.forbid(7);
        Checks.due("13 only those with W above 0 count", body.select(5, 2, 1), Checks.NONE);
        Checks.due("13 W of the second is 0", body.select(5, 1, 1), 5);
        body.addThruster(0, 0, 0, 1, 0, 1);
        Checks.due("13 another set of three", body.select(5, 2, 1), 14);
        body.setState(0, 2);
        Checks.due("13 with the running one", body.select(5, 2, 1), Checks.NONE);
        Checks.due("13 the running one and another", body.select(5, 2, 0), 10);
        body.allow(7);
        Checks.due("13 allowed again", body.select(5, 2, 1), 14);
        body.addThruster(0, 0, 3, 1, 0, 1);
        body.setState(4, 2);
        body.forbid(17);
        Checks.due("13 all are forbidden", body.select(5, 2, 0), Checks.NONE);
        Checks.due("13 the empty one", body.select(0, 0, 0), 0);
        Checks.due("15 the empty one", body.price(0, 0, 0), 0);
    }

    private static void pulse() {
        int[][] rows = {
            // f, least, target, pulse
            {1, 1, 1, 1}, {1, 1, 7, 7}, {1, 1, 20, 20}, {1, 10, 20, 20}, {10, 1, 4, 0}, {10, 1, 5, 1}, {10, 1, 14, 1}, {10, 1, 15, 2},
            {10, 1, 195, 20}, {10, 1, 194, 19}, {2, 4, 3, 0}, {2, 4, 4, 4}, {2, 4, 7, 4}, {2, 4, 9, 5}, {2, 5, 4, 0},
            {2, 5, 5, 5}, {1, 10, 4, 0}, {1, 10, 5, 10}, {1, 10, 9, 10}, {1, 10, 10, 10}, {1, 10, 11, 11}, {3, 3, 4, 0},
            {3, 3, 5, 3}, {10, 10, 49, 0}, {10, 10, 50, 10}, {10, 10, 104, 10}, {10, 10, 105, 11},
        };
        for (int[] row : rows) {
            ThrusterSelector body = Checks.axes(row[0], row[1]);
            String call = "14 strength " + row[0] + ", least " + row[1] + ", target " + row[2];
            Checks.due(call, body.pulse(row[2], 0, 0, 0), row[3]);
            Checks.due(call + " mask", body.select(row[2], 0, 0), 1);
        }
        ThrusterSelector body = Checks.pairs();
        int[] pulses = {7, 4, 3, 0};
        for (int thruster = 0; thruster < 4; thruster++) {
            Checks.due("14 pulse of " + thruster, body.pulse(9, 44, 11, thruster), pulses[thruster]);
            Checks.due("14 of the empty selection", body.pulse(0, 0, 0, thruster), 0);
        }
        Checks.due("14 no selection", body.pulse(0, -40, 0, 0), Checks.NONE);
    }

    private static void price() {
        ThrusterSelector body = Checks.pairs();
        Checks.due("15 two", body.price(0, 40, 0), 40000);
        Checks.due("15 none", body.price(0, -40, 0), Checks.NONE);
        body.refuel(0, 99999);
        Checks.due("15 one tank has less", body.price(0, 40, 0), 60000);
        body.refuel(1, 99998);
        Checks.due("15 the other has less", body.price(0, 4, 20), 4000);
        Checks.due("15 fuel of the emptier one", body.price(0, 4, -20), 8000);
        Checks.due("15 whole ticks", Checks.axes(1, 1).price(5, 1, 1), 6000);
        ThrusterSelector thirds = new ThrusterSelector();
        thirds.addThruster(3, 0, 1, 1, 0, 1);
        thirds.addThruster(0, 0, 3, 1, 0, 1);
        thirds.addThruster(0, 0, 0, 1, 0, 1);
        Checks.due("15 rounded down", thirds.price(0, 0, 1), 666);
        Checks.due("15 rounded down, more", thirds.price(1, 0, 4), 3666);
        Checks.due("15 pulses are whole, the price is not", thirds.pulse(0, 0, 1, 0), 0);
    }

    private static void wrongTargets() {
        ThrusterSelector body = Checks.pairs();
        int[] bad = {-40001, 40001, Integer.MIN_VALUE, Integer.MAX_VALUE};
        for (int value : bad) {
            for (int part = 0; part < 3; part++) {
                int x = part == 0 ? value : 0;
                int y = part == 1 ? value : 0;
                int turn = part == 2 ? value : 0;
                Checks.due("13 part " + part + " is " + value, body.select(x, y, turn), Checks.BAD_VALUE);
                Checks.due("14 part " + part + " is " + value, body.pulse(x, y, turn, 0), Checks.BAD_VALUE);
                Checks.due("14 no thruster before bad value", body.pulse(x, y, turn, 4), Checks.BAD_INDEX);
                Checks.due("15 part " + part + " is " + value, body.price(x, y, turn), Checks.BAD_VALUE);
            }
        }
        int[] far = {-40000, 40000};
        for (int value : far) {
            Checks.due("13 x is " + value, body.select(value, 0, 0), Checks.NONE);
            Checks.due("13 y is " + value, body.select(0, value, 0), Checks.NONE);
            Checks.due("13 turn is " + value, body.select(0, 0, value), Checks.NONE);
            Checks.due("14 at " + value, body.pulse(value, value, value, 3), Checks.NONE);
            Checks.due("15 at " + value, body.price(value, value, value), Checks.NONE);
        }
        Checks.due("14 thruster 4", body.pulse(0, 0, 0, 4), Checks.BAD_INDEX);
        Checks.due("14 thruster -1", body.pulse(0, -40, 0, -1), Checks.BAD_INDEX);
        for (int k = 0; k < 4; k++) {
            body.undo();
        }
        Checks.due("13 to 15 record nothing", body.undo(), Checks.BAD_STATE);
    }
}
