/** Promises 16 to 27. */
public final class CyclesTest {
    public static void main(String[] args) {
        queue();
        fullQueue();
        cycle();
        cycles();
        carryIsBounded();
        running();
        emptyTank();
        fired();
        ranges();
        suspect();
        suspectsOfThen();
        shortPulse();
        eightThrusters();
        Checks.end();
    }

    private static void queue() {
        ThrusterSelector body = new ThrusterSelector();
        int[] bad = {-2001, 2001, Integer.MIN_VALUE, Integer.MAX_VALUE};
        for (int value : bad) {
            Checks.due("16 x " + value, body.request(value, 0, 0), Checks.BAD_VALUE);
            Checks.due("16 y " + value, body.request(0, value, 0), Checks.BAD_VALUE);
            Checks.due("16 turn " + value, body.request(0, 0, value), Checks.BAD_VALUE);
            Checks.due("17 x " + value, body.urge(value, 0, 0), Checks.BAD_VALUE);
            Checks.due("17 y " + value, body.urge(0, value, 0), Checks.BAD_VALUE);
            Checks.due("17 turn " + value, body.urge(0, 0, value), Checks.BAD_VALUE);
        }
        Checks.due("18 an empty queue", body.cancel(0), Checks.BAD_INDEX);
        Checks.due("19 an empty queue", body.queued(), 0);
        Checks.due("20 an empty queue", body.requested(0, 0), Checks.BAD_INDEX);
        Checks.due("16 nothing is recorded", body.undo(), Checks.BAD_STATE);
        Checks.due("16 first", body.request(-2000, 2000, 1), 1);
        Checks.due("16 second", body.request(2000, -2000, 2), 2);
        Checks.due("17 third", body.urge(7, -2000, 2000), 3);
        int[][] due = {{7, -2000, 2000}, {-2000, 2000, 1}, {2000, -2000, 2}};
        for (int place = 0; place < 3; place++) {
            for (int part = 0; part < 3; part++) {
                Checks.due("20 place " + place + " part " + part, body.requested(place, part), due[place][part]);
            }
        }
        Checks.due("20 place 3", body.requested(3, 0), Checks.BAD_INDEX);
        Checks.due("20 place -1", body.requested(-1, 0), Checks.BAD_INDEX);
        Checks.due("20 part 3", body.requested(0, 3), Checks.BAD_INDEX);
        Checks.due("20 part -1", body.requested(0, -1), Checks.BAD_INDEX);
        Checks.due("18 place 3", body.cancel(3), Checks.BAD_INDEX);
        Checks.due("18 place -1", body.cancel(-1), Checks.BAD_INDEX);
        Checks.due("18 the middle one", body.cancel(1), 2);
        Checks.due("18 the last one moved", body.requested(1, 0), 2000);
        Checks.due("18 the first one stays", body.requested(0, 0), 7);
        Checks.due("18 is recorded", body.undo(), 3);
        Checks.due("18 is undone", body.requested(1, 2), 1);
        Checks.due("17 is recorded", body.undo(), 2);
        Checks.due("17 is undone", body.requested(0, 0), -2000);
        Checks.due("16 is recorded", body.undo(), 1);
        Checks.due("19 queued", body.queued(), 1);
    }

    private static void fullQueue() {
        ThrusterSelector body = new ThrusterSelector();
        for (int k = 1; k <= 10; k++) {
            Checks.due("17 urge " + k, k % 2 == 0 ? body.urge(k, k, k) : body.request(k, k, k), k);
        }
        int[] order = {10, 8, 6, 4, 2, 1, 3, 5, 7, 9};
        for (int place = 0; place < 10; place++) {
            Checks.due("20 place " + place, body.requested(place, 2), order[place]);
        }
        Checks.due("16 the eleventh", body.request(0, 0, 0), Checks.FULL);
        Checks.due("17 the eleventh", body.urge(0, 0, 0), Checks.FULL);
        Checks.due("16 a bad value before no room", body.request(0, 2001, 0), Checks.BAD_VALUE);
        Checks.due("17 a bad value before no room", body.urge(0, 2001, 0), Checks.BAD_VALUE);
        Checks.due("18 the last place", body.cancel(9), 9);
        Checks.due("18 the first place", body.cancel(0), 8);
        Checks.due("20 is the next one then", body.requested(0, 1), 8);
    }

    private static void cycle() {
        ThrusterSelector body = Checks.pairs();
        body.request(9, 44, 11);
        body.request(0, 40, 0);
        Checks.due("21 the first request", body.cycle(), 7);
        Checks.due("19 it is taken", body.queued(), 1);
        int[][] impulses = {{0, 0, -4}, {9, 44, 15}, {9, 44, 11}};
        for (int what = 0; what < 3; what++) {
            for (int part = 0; part < 3; part++) {
                Checks.due("25 what " + what + " part " + part, body.impulse(what, part), impulses[what][part]);
            }
        }
        int[] pulses = {7, 4, 3, 0};
        for (int i = 0; i < 4; i++) {
            Checks.due("24 fired " + i, body.fired(i), pulses[i]);
        }
        Checks.due("9 fuel(0)", body.fuel(0), 100000 - 7 * 4 - 3 * 3);
        Checks.due("9 fuel(1)", body.fuel(1), 100000 - 4 * 4);
        Checks.due("21 with the carry", body.cycle(), 3);
        Checks.due("25 the target", body.impulse(2, 2), -4);
        Checks.due("26 x", body.total(0), 9);
        Checks.due("26 y", body.total(1), 84);
        Checks.due("26 turn", body.total(2), 15);
        Checks.due("23 cycleCount", body.cycleCount(), 2);
        Checks.due("21 is recorded", body.undo(), 4);
        Checks.due("23 cycleCount is undone", body.cycleCount(), 1);
        Checks.due("26 the total is undone", body.total(1), 44);
        Checks.due("24 the pulses are undone", body.fired(2), 3);
        ThrusterSelector bare = new ThrusterSelector();
        Checks.due("21 nothing to do", bare.cycle(), 0);
        bare.request(1, 2, 3);
        Checks.due("21 no selection", bare.cycle(), Checks.NONE);
        Checks.due("25 it is carried", bare.impulse(0, 2), 3);
        Checks.due("25 nothing is delivered", bare.impulse(1, 2), 0);
        ThrusterSelector small = Checks.axes(10, 1);
        small.request(4, 0, 0);
        Checks.due("21 all pulses are 0", small.cycle(), 0);
        Checks.due("25 what is left", small.impulse(0, 0), 4);
        Checks.due("21 still 0 with nothing new", small.cycle(), 0);
        small.request(1, 0, 0);
        Checks.due("21 the carry counts", small.cycle(), 1);
        Checks.due("25 the carry is below 0", small.impulse(0, 0), -5);
    }

    private static void cycles() {
        ThrusterSelector body = Checks.pairs();
        int[] bad = {0, -1, 21, Integer.MIN_VALUE, Integer.MAX_VALUE};
        for (int many : bad) {
            Checks.due("22 many " + many, body.cycles(many), Checks.BAD_VALUE);
        }
        Checks.due("23 no cycle was done", body.cycleCount(), 0);
        body.request(0, 40, 0);
        body.request(0, -40, 0);
        body.request(0, 80, 0);
        Checks.due("22 three", body.cycles(3), 2);
        Checks.due("26 the total", body.total(1), 80);
        Checks.due("19 queued", body.queued(), 0);
        Checks.due("22 is one call", body.undo(), 4);
        Checks.due("19 all requests are back", body.queued(), 3);
        Checks.due("22 twenty", body.cycles(20), 19);
        Checks.due("23 twenty", body.cycleCount(), 20);
        Checks.due("22 one", body.cycles(1), 1);
        Checks.due("23 one more", body.cycleCount(), 21);
    }

    private static void carryIsBounded() {
        ThrusterSelector body = new ThrusterSelector();
        for (int k = 0; k < 3; k++) {
            body.request(2000, -2000, 1999);
        }
        Checks.due("22 no selection", body.cycles(3), 0);
        Checks.due("25 the carry of x", body.impulse(0, 0), 4000);
        Checks.due("25 the carry of y", body.impulse(0, 1), -4000);
        Checks.due("25 the carry of the turn", body.impulse(0, 2), 4000);
        Checks.due("25 the target of x", body.impulse(2, 0), 6000);
        Checks.due("25 the target of y", body.impulse(2, 1), -6000);
        Checks.due("25 the target of the turn", body.impulse(2, 2), 5997);
    }

    private static void running() {
        ThrusterSelector body = Checks.axes(1, 1);
        body.addThruster(0, 0, 2, 1, 1, 1);
        body.setState(0, 2);
        body.refuel(0, 700);
        Checks.due("21 made up for", body.cycle(), 8);
        Checks.due("25 the target", body.impulse(2, 0), -20);
        Checks.due("25 delivered", body.impulse(1, 0), 0);
        Checks.due("25 no carry", body.impulse(0, 0), 0);
        Checks.due("24 a running one has no pulse", body.fired(0), 0);
        Checks.due("24 the other one has", body.fired(3), 20);
        Checks.due("9 both use fuel", body.fuel(0) + 10 * body.fuel(1), 680 + 10 * 99980);
        body.setState(3, 1);
        Checks.due("21 not made up for", body.cycle(), Checks.NONE);
        Checks.due("25 delivered all the same", body.impulse(1, 0), 20);
        Checks.due("25 the carry", body.impulse(0, 0), -20);
        Checks.due("26 the total", body.total(0), 20);
        body.refuel(0, 19);
        Checks.due("21 the tank is too empty to run", body.cycle(), Checks.NONE);
        Checks.due("25 nothing is delivered", body.impulse(1, 0), 0);
        Checks.due("9 nothing is used", body.fuel(0), 19);
    }

    private static void emptyTank() {
        ThrusterSelector body = new ThrusterSelector();
        for (int k = 0; k < 4; k++) {
            body.addThruster(0, 0, k % 2, 10, 1, 1);
            body.setState(k, 2);
        }
        body.refuel(1, 200);
        Checks.due("21 all of them run", body.cycle(), Checks.NONE);
        Checks.due("25 in full", body.impulse(1, 0), 400);
        Checks.due("25 the carry", body.impulse(0, 1), -400);
        Checks.due("9 the tank is empty", body.fuel(1), 0);
        Checks.due("9 the other one is full", body.fuel(0), 100000);
        Checks.due("5 none runs", body.thruster(0, 8), 0);
        body.refuel(1, 900);
        body.cycle();
        Checks.due("9 the tank has a rest", body.fuel(1), 100);
    }

    private static void fired() {
        ThrusterSelector body = Checks.axes(1, 1);
        Checks.due("24 no cycle", body.fired(0), 0);
        body.request(5, 0, 0);
        body.cycle();
        Checks.due("24 a pulse", body.fired(0), 5);
        Checks.due("24 thruster 3", body.fired(3), Checks.BAD_INDEX);
        Checks.due("24 thruster -1", body.fired(-1), Checks.BAD_INDEX);
        body.addThruster(0, 0, 0, 1, 0, 1);
        Checks.due("24 added behind it", body.fired(3), 0);
        body.setState(0, 1);
        Checks.due("24 its state does not count", body.fired(0), 5);
        body.request(6, 0, 0);
        body.cycle();
        Checks.due("24 the other one", body.fired(3), 6);
        Checks.due("24 the failed one", body.fired(0), 0);
        for (int k = 0; k < 5; k++) {
            body.undo();
        }
        body.addThruster(0, 0, 0, 1, 0, 1);
        Checks.due("24 added again behind undo", body.fired(3), 0);
    }

    private static void ranges() {
        ThrusterSelector body = new ThrusterSelector();
        Checks.due("25 part 3", body.impulse(0, 3), Checks.BAD_INDEX);
        Checks.due("25 part -1", body.impulse(3, -1), Checks.BAD_INDEX);
        Checks.due("25 what 3", body.impulse(3, 0), Checks.BAD_VALUE);
        Checks.due("25 what -1", body.impulse(-1, 2), Checks.BAD_VALUE);
        Checks.due("26 part 3", body.total(3), Checks.BAD_INDEX);
        Checks.due("26 part -1", body.total(-1), Checks.BAD_INDEX);
    }

    private static void suspect() {
        ThrusterSelector body = Checks.pairs();
        Checks.due("27 no cycle", body.suspect(0, 0, 0), Checks.BAD_STATE);
        int[] bad = {-1000001, 1000001, Integer.MIN_VALUE, Integer.MAX_VALUE};
        for (int value : bad) {
            Checks.due("27 x " + value, body.suspect(value, 0, 0), Checks.BAD_VALUE);
            Checks.due("27 y " + value, body.suspect(0, value, 0), Checks.BAD_VALUE);
            Checks.due("27 turn " + value, body.suspect(0, 0, value), Checks.BAD_VALUE);
        }
        body.request(9, 44, 11);
        body.cycle();
        Checks.due("27 as delivered", body.suspect(9, 44, 15), 0);
        Checks.due("27 without 0", body.suspect(9, 44 - 28, 15 - 140), 100);
        Checks.due("27 without 1", body.suspect(9, 44 - 16, 15 + 80), 101);
        Checks.due("27 without 2", body.suspect(0, 44, 15 + 45), 102);
        Checks.due("27 with all of 0", body.suspect(9, 44 + 52, 15 + 260), 200);
        Checks.due("27 with all of 2", body.suspect(9 + 51, 44, 15 - 255), 202);
        Checks.due("27 with all of 3", body.suspect(9 - 60, 44, 15 - 300), 203);
        Checks.due("27 not x", body.suspect(10, 44 - 28, 15 - 140), Checks.NONE);
        Checks.due("27 not y", body.suspect(9, 44 - 27, 15 - 140), Checks.NONE);
        Checks.due("27 not the turn", body.suspect(9, 44 - 28, 15 - 139), Checks.NONE);
        Checks.due("27 far away", body.suspect(1000000, -1000000, 1000000), Checks.NONE);
        Checks.due("27 far away, too", body.suspect(-1000000, 1000000, -1000000), Checks.NONE);
        body.undo();
        Checks.due("27 no cycle again", body.suspect(9, 44, 15), Checks.BAD_STATE);
    }

    private static void suspectsOfThen() {
        ThrusterSelector body = Checks.axes(1, 1);
        body.addThruster(0, 0, 2, 1, 0, 1);
        body.addThruster(0, 0, 0, 1, 0, 1);
        body.request(20, 0, 0);
        body.cycle();
        Checks.due("27 one off comes before one on", body.suspect(0, 0, 0), 100);
        Checks.due("27 20 ticks are not below 20", body.suspect(40, 0, 0), 204);
        body.setState(0, 1);
        Checks.due("27 it was sound then", body.suspect(0, 0, 0), 100);
        body.addThruster(0, 0, 3, 1, 0, 1);
        Checks.due("27 it was not there then", body.suspect(20, -20, 0), Checks.NONE);
        body.request(20, 0, 0);
        body.cycle();
        Checks.due("27 the first one is not sound now", body.suspect(0, 0, 0), 104);
        Checks.due("27 not sound, so none", body.suspect(40, 0, 0), Checks.NONE);
        body.setState(0, 0);
        Checks.due("27 it was not sound then", body.suspect(40, 0, 0), Checks.NONE);
        Checks.due("27 the new one is there now", body.suspect(20, -20, 0), 205);
        body.refuel(0, 0);
        body.refuel(1, 0);
        body.cycle();
        Checks.due("27 sound without fuel", body.suspect(0, -20, 0), 205);
        body.undo();
        body.undo();
        body.undo();
        body.undo();
        Checks.due("27 undo brings back who was sound", body.suspect(40, 0, 0), Checks.NONE);
    }

    private static void shortPulse() {
        ThrusterSelector body = Checks.axes(1, 1);
        body.request(1, 0, 0);
        body.cycle();
        Checks.due("27 without a pulse of one tick", body.suspect(0, 0, 0), 100);
        Checks.due("27 throughout", body.suspect(20, 0, 0), 200);
        Checks.due("27 with one tick too many", body.suspect(21, 0, 0), Checks.NONE);
    }

    private static void eightThrusters() {
        ThrusterSelector body = new ThrusterSelector();
        for (int k = 0; k < 8; k++) {
            body.addThruster(k % 3 - 1, 0, k % 4, 1 + k % 2, k % 2, 1);
        }
        body.setState(3, 2);
        body.request(0, 0, 60);
        Checks.due("21 eight thrusters, one runs", body.cycle(), 2 + 32);
        Checks.due("25 the target", body.impulse(2, 1), 40);
        Checks.due("25 delivered along y", body.impulse(1, 1), 0);
        Checks.due("25 delivered as turn", body.impulse(1, 2), 60);
        Checks.due("27 none is the ninth", body.suspect(0, 0, 0), Checks.NONE);
    }
}
