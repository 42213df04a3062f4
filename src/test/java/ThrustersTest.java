/** Promises 1 to 9. */
public final class ThrustersTest {
    public static void main(String[] args) {
        newObject();
        addThruster();
        setState();
        thruster();
        unit();
        determinant();
        fuel();
        Checks.end();
    }

    private static void newObject() {
        ThrusterSelector body = new ThrusterSelector();
        Checks.due("1 thrusters", body.thrusters(), 0);
        Checks.due("1 fuel(0)", body.fuel(0), 100000);
        Checks.due("1 fuel(1)", body.fuel(1), 100000);
        Checks.due("1 queued", body.queued(), 0);
        Checks.due("1 cycleCount", body.cycleCount(), 0);
        Checks.due("1 isForbidden(255)", body.isForbidden(255), 0);
        Checks.due("1 clearText", body.clearText(), 0);
        Checks.due("1 undo", body.undo(), Checks.BAD_STATE);
        for (int part = 0; part < 3; part++) {
            Checks.due("1 total", body.total(part), 0);
            for (int what = 0; what < 3; what++) {
                Checks.due("1 impulse", body.impulse(what, part), 0);
            }
        }
    }

    private static void addThruster() {
        ThrusterSelector body = new ThrusterSelector();
        int[][] values = {{-10, 10}, {-10, 10}, {0, 3}, {1, 10}, {0, 1}, {1, 10}};
        for (int k = 0; k < values.length; k++) {
            for (int side = 0; side < 2; side++) {
                int[] a = {0, 0, 0, 1, 0, 1};
                a[k] = values[k][side] + (side == 0 ? -1 : 1);
                int want = k == 4 ? Checks.BAD_INDEX : Checks.BAD_VALUE;
                Checks.due("2 argument " + k + " is " + a[k], body.addThruster(a[0], a[1], a[2], a[3], a[4], a[5]), want);
                a[k] = side == 0 ? Integer.MIN_VALUE : Integer.MAX_VALUE;
                Checks.due("2 argument " + k + " is " + a[k], body.addThruster(a[0], a[1], a[2], a[3], a[4], a[5]), want);
            }
        }
        Checks.due("2 no tank before bad value", body.addThruster(99, 0, 0, 1, 2, 1), Checks.BAD_INDEX);
        Checks.due("2 no thruster was added", body.thrusters(), 0);
        Checks.due("2 nothing was recorded", body.undo(), Checks.BAD_STATE);
        for (int k = 0; k < 8; k++) {
            boolean low = k % 2 == 0;
            Checks.due("2 number", low ? body.addThruster(-10, -10, 0, 1, 0, 1) : body.addThruster(10, 10, 3, 10, 1, 10), k);
            Checks.due("4 thrusters", body.thrusters(), k + 1);
        }
        Checks.due("2 the ninth", body.addThruster(0, 0, 0, 1, 0, 1), Checks.FULL);
        Checks.due("2 the ninth, with a bad value", body.addThruster(0, 0, 4, 1, 0, 1), Checks.BAD_VALUE);
        Checks.due("2 the ninth, without a tank", body.addThruster(0, 0, 0, 1, -1, 1), Checks.BAD_INDEX);
        Checks.due("4 thrusters stay", body.thrusters(), 8);
        Checks.due("2 is recorded", body.undo(), 4);
        Checks.due("4 thrusters after undo", body.thrusters(), 7);
    }

    private static void setState() {
        ThrusterSelector body = Checks.pairs();
        Checks.due("3 to 1", body.setState(1, 1), 0);
        Checks.due("3 to 2", body.setState(1, 2), 1);
        Checks.due("3 to 2 again", body.setState(1, 2), 2);
        Checks.due("3 other thrusters keep theirs", body.thruster(0, 6), 0);
        Checks.due("3 state 3", body.setState(1, 3), Checks.BAD_VALUE);
        Checks.due("3 state -1", body.setState(1, -1), Checks.BAD_VALUE);
        Checks.due("3 thruster 4", body.setState(4, 3), Checks.BAD_INDEX);
        Checks.due("3 thruster -1", body.setState(-1, 0), Checks.BAD_INDEX);
        Checks.due("3 errors change nothing", body.thruster(1, 6), 2);
        Checks.due("3 is recorded", body.undo(), 4);
        body.undo();
        Checks.due("3 is undone", body.thruster(1, 6), 1);
    }

    private static void thruster() {
        ThrusterSelector body = new ThrusterSelector();
        body.addThruster(-7, 9, 3, 8, 1, 6);
        int[] properties = {-7, 9, 3, 8, 1, 6, 0, 1, 0};
        for (int what = 0; what < properties.length; what++) {
            Checks.due("5 property " + what, body.thruster(0, what), properties[what]);
        }
        Checks.due("5 property 9", body.thruster(0, 9), Checks.BAD_VALUE);
        Checks.due("5 property -1", body.thruster(0, -1), Checks.BAD_VALUE);
        Checks.due("5 thruster 1", body.thruster(1, 9), Checks.BAD_INDEX);
        Checks.due("5 thruster -1", body.thruster(-1, 0), Checks.BAD_INDEX);
        body.refuel(0, 0);
        Checks.due("5 usable by its own tank", body.thruster(0, 7), 1);
        body.refuel(1, 600);
        Checks.due("5 usable with 600", body.thruster(0, 7), 1);
        body.refuel(1, 599);
        Checks.due("5 usable with 599", body.thruster(0, 7), 0);
        body.refuel(1, 100000);
        body.setState(0, 1);
        Checks.due("5 usable in state 1", body.thruster(0, 7), 0);
        Checks.due("5 running in state 1", body.thruster(0, 8), 0);
        body.setState(0, 2);
        Checks.due("5 usable in state 2", body.thruster(0, 7), 0);
        Checks.due("5 running in state 2", body.thruster(0, 8), 1);
        body.refuel(1, 160);
        Checks.due("5 running with 20 * f", body.thruster(0, 8), 1);
        body.refuel(1, 159);
        Checks.due("5 running with less", body.thruster(0, 8), 0);
    }

    private static void unit() {
        ThrusterSelector body = new ThrusterSelector();
        int[][] units = {{3, 0, -15}, {0, 3, -6}, {-3, 0, 15}, {0, -3, 6}};
        for (int direction = 0; direction < 4; direction++) {
            body.addThruster(-2, 5, direction, 3, 0, 1);
            for (int part = 0; part < 3; part++) {
                Checks.due("6 direction " + direction + " part " + part, body.unit(direction, part), units[direction][part]);
            }
        }
        Checks.due("6 part 3", body.unit(0, 3), Checks.BAD_INDEX);
        Checks.due("6 part -1", body.unit(0, -1), Checks.BAD_INDEX);
        Checks.due("6 thruster 4", body.unit(4, 0), Checks.BAD_INDEX);
        Checks.due("6 thruster -1", body.unit(-1, 0), Checks.BAD_INDEX);
    }

    private static void determinant() {
        ThrusterSelector body = Checks.pairs();
        Checks.due("7 of 0, 1, 2", body.determinant(0, 1, 2), -480);
        Checks.due("7 of 1, 0, 2", body.determinant(1, 0, 2), 480);
        Checks.due("7 of 2, 0, 1", body.determinant(2, 0, 1), -480);
        Checks.due("7 of 0, 2, 3", body.determinant(0, 2, 3), 360);
        Checks.due("7 of 0, 0, 2", body.determinant(0, 0, 2), 0);
        Checks.due("7 of 2, 2, 2", body.determinant(2, 2, 2), 0);
        for (int bad = -1; bad <= 4; bad += 5) {
            Checks.due("7 first " + bad, body.determinant(bad, 1, 2), Checks.BAD_INDEX);
            Checks.due("7 second " + bad, body.determinant(0, bad, 2), Checks.BAD_INDEX);
            Checks.due("7 third " + bad, body.determinant(0, 1, bad), Checks.BAD_INDEX);
        }
        ThrusterSelector large = new ThrusterSelector();
        large.addThruster(10, 10, 0, 10, 0, 1);
        large.addThruster(10, 10, 1, 10, 0, 1);
        large.addThruster(-10, -10, 1, 10, 0, 1);
        Checks.due("7 large", large.determinant(0, 1, 2), -20000);
    }

    private static void fuel() {
        ThrusterSelector body = new ThrusterSelector();
        Checks.due("8 to 0", body.refuel(1, 0), 100000);
        Checks.due("8 to 100000", body.refuel(1, 100000), 0);
        Checks.due("8 to 77", body.refuel(1, 77), 100000);
        Checks.due("9 fuel(1)", body.fuel(1), 77);
        Checks.due("9 fuel(0)", body.fuel(0), 100000);
        Checks.due("8 to 100001", body.refuel(1, 100001), Checks.BAD_VALUE);
        Checks.due("8 to -1", body.refuel(1, -1), Checks.BAD_VALUE);
        Checks.due("8 tank 2", body.refuel(2, -1), Checks.BAD_INDEX);
        Checks.due("8 tank -1", body.refuel(-1, 0), Checks.BAD_INDEX);
        Checks.due("9 tank 2", body.fuel(2), Checks.BAD_INDEX);
        Checks.due("9 tank -1", body.fuel(-1), Checks.BAD_INDEX);
        Checks.due("8 errors change nothing", body.fuel(1), 77);
        Checks.due("8 is recorded", body.undo(), 2);
        Checks.due("8 is undone", body.fuel(1), 100000);
    }
}
