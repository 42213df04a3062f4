/** Promises 28 and 33. */
public final class HistoryTest {
    public static void main(String[] args) {
        whatIsRecorded();
        theOldestIsDropped();
        theTextStays();
        wholeState();
        digest();
        Checks.end();
    }

    private static void whatIsRecorded() {
        ThrusterSelector body = new ThrusterSelector();
        Checks.due("28 empty", body.undo(), Checks.BAD_STATE);
        body.thrusters();
        body.thruster(0, 0);
        body.unit(0, 0);
        body.determinant(0, 0, 0);
        body.fuel(0);
        body.isForbidden(0);
        body.select(0, 0, 0);
        body.pulse(0, 0, 0, 0);
        body.price(0, 0, 0);
        body.queued();
        body.requested(0, 0);
        body.cycleCount();
        body.fired(0);
        body.impulse(0, 0);
        body.total(0);
        body.suspect(0, 0, 0);
        body.type(48);
        body.textFault();
        body.load();
        body.clearText();
        body.digest();
        Checks.due("28 nothing is recorded", body.undo(), Checks.BAD_STATE);
        body.refuel(0, 100000);
        Checks.due("28 recorded though nothing changes", body.undo(), 0);
        body.cycle();
        Checks.due("28 a cycle", body.undo(), 0);
        body.request(1, 0, 0);
        body.cycle();
        Checks.due("28 a cycle without selection", body.undo(), 1);
        Checks.due("28 its request is back", body.queued(), 1);
    }

    private static void theOldestIsDropped() {
        ThrusterSelector body = new ThrusterSelector();
        for (int k = 1; k <= 13; k++) {
            body.refuel(0, k);
        }
        for (int k = 1; k <= 5; k++) {
            Checks.due("28 left", body.undo(), 5 - k);
            Checks.due("28 fuel", body.fuel(0), 13 - k);
        }
        Checks.due("28 no more", body.undo(), Checks.BAD_STATE);
        Checks.due("28 it stays", body.fuel(0), 8);
        body.refuel(0, 50);
        body.refuel(0, 51);
        Checks.due("28 again", body.undo(), 1);
        body.refuel(0, 52);
        Checks.due("28 after another call", body.undo(), 1);
        Checks.due("28 fuel again", body.fuel(0), 50);
    }

    private static void theTextStays() {
        ThrusterSelector body = new ThrusterSelector();
        body.refuel(0, 1);
        Checks.write(body, "1,2,3");
        body.undo();
        Checks.due("28 the text stays", body.clearText(), 5);
    }

    private static void wholeState() {
        ThrusterSelector body = Checks.pairs();
        body.forbid(12);
        body.setState(3, 2);
        body.request(9, 44, 11);
        body.cycle();
        body.request(1, 2, 3);
        body.request(4, 5, 6);
        long before = body.digest();
        body.cycles(20);
        body.undo();
        Checks.due("28 cycles", body.digest(), before);
        Checks.due("28 who was sound", body.suspect(9 - 60, 44, 0), Checks.NONE);
        body.addThruster(1, 1, 1, 1, 1, 1);
        body.undo();
        Checks.due("28 addThruster", body.digest(), before);
        body.setState(0, 1);
        body.undo();
        Checks.due("28 setState", body.digest(), before);
        body.urge(7, 8, 9);
        body.undo();
        Checks.due("28 urge", body.digest(), before);
        body.cancel(0);
        body.undo();
        Checks.due("28 cancel", body.digest(), before);
        body.allow(12);
        body.undo();
        Checks.due("28 allow", body.isForbidden(4), 1);
        Checks.due("28 allow alone", body.digest(), before);
        body.forbid(3);
        body.undo();
        Checks.due("28 forbid", body.isForbidden(3), 0);
        Checks.due("28 forbid alone", body.digest(), before);
        body.refuel(1, 5);
        body.undo();
        Checks.due("28 refuel", body.digest(), before);
        Checks.write(body, "1,2,3");
        body.load();
        body.undo();
        Checks.due("28 load", body.digest(), before);
        body.cycle();
        body.undo();
        Checks.due("28 cycle", body.digest(), before);
        body.request(7, 8, 9);
        body.undo();
        Checks.due("28 request", body.digest(), before);
    }

    private static long hash(long... values) {
        long h = 17;
        for (long v : values) {
            h = 31 * h + v;
        }
        return h;
    }

    private static void digest() {
        ThrusterSelector body = new ThrusterSelector();
        Checks.due("33 a new object", body.digest(),
            hash(0, 100000, 100000, 0, 0, 0, 0, 0, 0, 0, 0, 0, 0, 0, 0, 0, 0));
        body.addThruster(-3, 4, 0, 2, 1, 3);
        body.addThruster(5, -6, 1, 7, 0, 8);
        body.setState(0, 2);
        body.refuel(0, 601);
        body.refuel(1, 500);
        body.request(-2000, 1, 2);
        body.request(3, -4, 5);
        body.urge(0, 0, 700);
        body.cycle();
        Checks.due("33 a state", body.digest(), hash(2,
            -3, 4, 0, 2, 1, 3, 2, 0, 5, -6, 1, 7, 0, 8, 0, 0,
            601, 460, 2, -2000, 1, 2, 3, -4, 5,
            -40, 0, 860, 40, 0, -160, -40, 0, 860, 40, 0, -160, 1));
        ThrusterSelector pairs = Checks.pairs();
        pairs.request(9, 44, 11);
        pairs.cycle();
        Checks.due("33 with pulses", pairs.digest(), hash(4,
            5, 0, 1, 4, 0, 2, 0, 7, -5, 0, 1, 4, 1, 2, 0, 4, 0, 5, 0, 3, 0, 1, 0, 3, 0, -5, 2, 3, 1, 1, 0, 0,
            99963, 99984, 0, 0, 0, -4, 9, 44, 15, 9, 44, 11, 9, 44, 15, 1));
        pairs.forbid(3);
        Checks.write(pairs, "1,2,3");
        long before = pairs.digest();
        pairs.allow(3);
        pairs.clearText();
        Checks.due("33 without sets and text", pairs.digest(), before);
    }
}
