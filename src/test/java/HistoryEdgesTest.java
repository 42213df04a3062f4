/** Each sentence of the document about the history, the errors, the digest and the life of an object that names a boundary. */
public final class HistoryEdgesTest {
    public static void main(String[] args) {
        mostStates();
        oldestDropped();
        wholeState();
        thoughNothingChanges();
        notRecorded();
        removesTheLatest();
        emptyHistory();
        errorsAreNotRecorded();
        firstError();
        overflow();
        fiveHundredTwelveCalls();
        Checks.end();
    }

    private static ThrusterSelector fuelled(int last) {
        ThrusterSelector body = new ThrusterSelector();
        for (int k = 1; k <= last; k++) {
            body.refuel(0, k);
        }
        return body;
    }

    private static void mostStates() {
        Checks.sentence("A history of at most 5 states is kept.");
        for (int count = 0; count <= 12; count++) {
            ThrusterSelector body = fuelled(count);
            for (int left = Math.min(count, 5) - 1; left >= 0; left--) {
                Checks.due("undo behind " + count, body.undo(), left);
            }
            Checks.due("undo behind " + count + ", once more", body.undo(), Checks.BAD_STATE);
        }
    }

    private static void oldestDropped() {
        Checks.sentence("when one more is recorded, the oldest one is dropped.");
        for (int count = 1; count <= 17; count++) {
            ThrusterSelector body = fuelled(count);
            int kept = Math.min(count, 5);
            for (int k = 1; k <= kept; k++) {
                body.undo();
                Checks.due("fuel behind " + count + " calls and " + k + " undone", body.fuel(0), count == k ? 100000 : count - k);
            }
        }
        // The kept states turn round and round as calls and undo() alternate.
        ThrusterSelector body = fuelled(7);
        for (int turn = 0; turn < 9; turn++) {
            body.undo();
            body.undo();
            body.undo();
            Checks.due("fuel in turn " + turn, body.fuel(0), 4 + 3 * turn);
            for (int k = 1; k <= 6; k++) {
                body.refuel(0, 4 + 3 * turn + k);
            }
            Checks.due("fuel behind turn " + turn, body.fuel(0), 10 + 3 * turn);
        }
        for (int k = 1; k <= 5; k++) {
            Checks.due("left", body.undo(), 5 - k);
            Checks.due("fuel", body.fuel(0), 34 - k);
        }
        Checks.due("the sixth", body.undo(), Checks.BAD_STATE);
    }

    /** All parts of the state are other than in a new body; the carry, the pulses and who was sound, too. */
    private static ThrusterSelector rich() {
        ThrusterSelector body = Checks.pairs();
        body.addThruster(-3, 4, 3, 2, 1, 10);
        body.setState(4, 2);
        body.forbid(9);
        body.forbid(24);
        body.request(9, 84, 71);
        body.request(-2000, 2000, 1);
        body.request(4, 5, 6);
        body.refuel(1, 5000);
        body.cycle();
        body.setState(4, 1);
        Checks.write(body, "!1,2,3;-4,5,6");
        return body;
    }

    private static final Checks.Call[] RECORDED = {
        b -> b.addThruster(1, 2, 3, 4, 0, 5), b -> b.setState(0, 1), b -> b.setState(4, 2), b -> b.refuel(0, 700), b -> b.refuel(1, 0),
        b -> b.forbid(3), b -> b.allow(9), b -> b.allow(24), b -> b.request(1, 2, 3), b -> b.urge(3, 2, 1), b -> b.cancel(0),
        b -> b.cancel(1), b -> b.cycle(), b -> b.cycles(1), b -> b.cycles(20), b -> b.load(),
    };

    private static void wholeState() {
        Checks.sentence("record the whole state (all but the text) before each call");
        for (int one = 0; one < RECORDED.length; one++) {
            ThrusterSelector body = rich();
            RECORDED[one].on(body);
            Checks.due("undo of call " + one, body.undo(), 4);
            sameFace("call " + one + " undone", body, rich());
            for (int two = 0; two < RECORDED.length; two++) {
                ThrusterSelector both = rich();
                RECORDED[one].on(both);
                boolean refused = RECORDED[two].on(both) < Checks.NONE;
                both.undo();
                if (!refused) {
                    both.undo();
                }
                sameFace("calls " + one + " and " + two + " undone", both, rich());
            }
        }
    }

    /** What shows of two bodies, but for their histories. */
    private static void sameFace(String when, ThrusterSelector one, ThrusterSelector two) {
        Checks.due("digest, " + when, one.digest(), two.digest());
        Checks.due("textFault, " + when, one.textFault(), two.textFault());
        for (int set = 0; set < 32; set++) {
            Checks.due("isForbidden " + set + ", " + when, one.isForbidden(set), two.isForbidden(set));
        }
        for (int i = 0; i < one.thrusters(); i++) {
            int ticks = 20 - one.fired(i);
            int x = one.impulse(1, 0) + ticks * one.unit(i, 0);
            int y = one.impulse(1, 1) + ticks * one.unit(i, 1);
            int turn = one.impulse(1, 2) + ticks * one.unit(i, 2);
            Checks.due("suspect " + i + ", " + when, one.suspect(x, y, turn), two.suspect(x, y, turn));
        }
        Checks.due("the length of the text, " + when, one.type(' '), two.type(' '));
        Checks.due("cycles then, " + when, one.cycles(3), two.cycles(3));
        Checks.due("digest then, " + when, one.digest(), two.digest());
    }

    private static void thoughNothingChanges() {
        Checks.sentence("even if it changes nothing");
        ThrusterSelector body = Checks.pairs();
        body.undo();
        body.undo();
        body.undo();
        body.undo();
        long before = body.digest();
        Checks.due("refuel", body.refuel(0, 100000), 100000);
        Checks.due("digest", body.digest(), before);
        Checks.due("undo of refuel", body.undo(), 0);
        body.addThruster(0, 0, 0, 1, 0, 1);
        Checks.due("setState", body.setState(0, 0), 0);
        Checks.due("undo of setState", body.undo(), 1);
        Checks.due("a cycle without a selection is no error", behind(b -> b.request(1, 0, 0), b -> b.cycle()).undo(), 1);
        Checks.due("cycles without a selection are none", behind(b -> b.request(1, 0, 0), b -> b.cycles(2)).undo(), 1);
        Checks.due("an empty cycle", behind(b -> b.cycle(), b -> b.cycle()).undo(), 1);
    }

    private static ThrusterSelector behind(Checks.Call first, Checks.Call second) {
        ThrusterSelector body = new ThrusterSelector();
        first.on(body);
        second.on(body);
        return body;
    }

    private static void notRecorded() {
        Checks.sentence("The methods that are said to be recorded");
        Checks.Call[] looks = {
            b -> b.thrusters(), b -> b.thruster(0, 0), b -> b.unit(0, 0), b -> b.determinant(0, 1, 2), b -> b.fuel(0), b -> b.isForbidden(0),
            b -> b.select(0, 40, 0), b -> b.pulse(0, 40, 0, 0), b -> b.price(0, 40, 0), b -> b.queued(), b -> b.requested(0, 0),
            b -> b.cycleCount(), b -> b.fired(0), b -> b.impulse(0, 0), b -> b.total(0), b -> b.suspect(0, 0, 0), b -> b.textFault(),
            b -> b.digest(),
        };
        for (int k = 0; k < looks.length; k++) {
            ThrusterSelector body = rich();
            looks[k].on(body);
            Checks.sameStates("behind look " + k, body, rich());
        }
        for (int k = 0; k < RECORDED.length; k++) {
            ThrusterSelector body = rich();
            Checks.due("undo", body.undo(), 4);
            RECORDED[k].on(body);
            Checks.due("undo of call " + k, body.undo(), 4);
        }
        ThrusterSelector text = new ThrusterSelector();
        text.type('1');
        text.clearText();
        Checks.due("type and clearText", text.undo(), Checks.BAD_STATE);
    }

    private static void removesTheLatest() {
        Checks.sentence("undo() removes and restores the latest one.");
        ThrusterSelector body = fuelled(3);
        Checks.due("undo", body.undo(), 2);
        Checks.due("fuel", body.fuel(0), 2);
        body.refuel(0, 9);
        Checks.due("undo of another", body.undo(), 2);
        Checks.due("fuel", body.fuel(0), 2);
        Checks.due("undo", body.undo(), 1);
        Checks.due("undo", body.undo(), 0);
        Checks.due("fuel", body.fuel(0), 100000);
        Checks.due("undo", body.undo(), Checks.BAD_STATE);
        Checks.due("fuel", body.fuel(0), 100000);
    }

    private static void emptyHistory() {
        Checks.sentence("Returns the number of states that are left in it; BAD_STATE if it is empty.");
        Checks.refused("undo of nothing", ThrusterSelector::new, Checks.BAD_STATE, b -> b.undo());
        Checks.refused("undo of nothing more", HistoryEdgesTest::undone, Checks.BAD_STATE, b -> b.undo());
        Checks.due("undo of one", fuelled(1).undo(), 0);
        Checks.due("undo of five", fuelled(5).undo(), 4);
        Checks.due("undo of six", fuelled(6).undo(), 4);
    }

    private static ThrusterSelector undone() {
        ThrusterSelector body = rich();
        for (int k = 0; k < 5; k++) {
            body.undo();
        }
        return body;
    }

    private static void errorsAreNotRecorded() {
        Checks.sentence("A call that returns an error changes nothing.");
        Checks.refused("addThruster", HistoryEdgesTest::rich, Checks.BAD_INDEX, b -> b.addThruster(0, 0, 0, 1, 2, 1));
        Checks.refused("addThruster", HistoryEdgesTest::rich, Checks.BAD_VALUE, b -> b.addThruster(0, 0, 4, 1, 1, 1));
        Checks.refused("setState", HistoryEdgesTest::rich, Checks.BAD_INDEX, b -> b.setState(5, 0));
        Checks.refused("setState", HistoryEdgesTest::rich, Checks.BAD_VALUE, b -> b.setState(4, 3));
        Checks.refused("thruster", HistoryEdgesTest::rich, Checks.BAD_INDEX, b -> b.thruster(5, 0));
        Checks.refused("unit", HistoryEdgesTest::rich, Checks.BAD_INDEX, b -> b.unit(4, 3));
        Checks.refused("determinant", HistoryEdgesTest::rich, Checks.BAD_INDEX, b -> b.determinant(0, 1, 5));
        Checks.refused("refuel", HistoryEdgesTest::rich, Checks.BAD_INDEX, b -> b.refuel(2, 0));
        Checks.refused("refuel", HistoryEdgesTest::rich, Checks.BAD_VALUE, b -> b.refuel(0, 100001));
        Checks.refused("fuel", HistoryEdgesTest::rich, Checks.BAD_INDEX, b -> b.fuel(2));
        Checks.refused("forbid", HistoryEdgesTest::rich, Checks.BAD_VALUE, b -> b.forbid(33));
        Checks.refused("forbid", HistoryEdgesTest::rich, Checks.BAD_STATE, b -> b.forbid(24));
        Checks.refused("allow", HistoryEdgesTest::rich, Checks.BAD_STATE, b -> b.allow(3));
        Checks.refused("isForbidden", HistoryEdgesTest::rich, Checks.BAD_VALUE, b -> b.isForbidden(256));
        Checks.refused("select", HistoryEdgesTest::rich, Checks.BAD_VALUE, b -> b.select(0, 0, 40001));
        Checks.refused("select", HistoryEdgesTest::rich, Checks.NONE, b -> b.select(0, 0, 40000));
        Checks.refused("pulse", HistoryEdgesTest::rich, Checks.BAD_INDEX, b -> b.pulse(0, 0, 0, 5));
        Checks.refused("price", HistoryEdgesTest::rich, Checks.BAD_VALUE, b -> b.price(-40001, 0, 0));
        Checks.refused("request", HistoryEdgesTest::rich, Checks.BAD_VALUE, b -> b.request(0, 0, 2001));
        Checks.refused("urge", HistoryEdgesTest::rich, Checks.BAD_VALUE, b -> b.urge(-2001, 0, 0));
        Checks.refused("cancel", HistoryEdgesTest::rich, Checks.BAD_INDEX, b -> b.cancel(2));
        Checks.refused("requested", HistoryEdgesTest::rich, Checks.BAD_INDEX, b -> b.requested(2, 0));
        Checks.refused("cycles", HistoryEdgesTest::rich, Checks.BAD_VALUE, b -> b.cycles(21));
        Checks.refused("fired", HistoryEdgesTest::rich, Checks.BAD_INDEX, b -> b.fired(5));
        Checks.refused("impulse", HistoryEdgesTest::rich, Checks.BAD_INDEX, b -> b.impulse(0, 3));
        Checks.refused("impulse", HistoryEdgesTest::rich, Checks.BAD_VALUE, b -> b.impulse(3, 0));
        Checks.refused("total", HistoryEdgesTest::rich, Checks.BAD_INDEX, b -> b.total(3));
        Checks.refused("suspect", HistoryEdgesTest::rich, Checks.BAD_VALUE, b -> b.suspect(0, 0, 1000001));
        Checks.refused("suspect", HistoryEdgesTest::rich, Checks.NONE, b -> b.suspect(0, 0, 1000000));
        Checks.refused("type", HistoryEdgesTest::rich, Checks.BAD_VALUE, b -> b.type(256));
        Checks.refused("load", HistoryEdgesTest::spoilt, Checks.BAD_STATE, b -> b.load());
    }

    private static ThrusterSelector spoilt() {
        ThrusterSelector body = rich();
        body.type(';');
        return body;
    }

    private static ThrusterSelector full() {
        ThrusterSelector body = new ThrusterSelector();
        for (int k = 0; k < 8; k++) {
            body.addThruster(k, 0, k % 4, 1, 0, 1);
        }
        for (int k = 0; k < 8; k++) {
            body.forbid(1 << k | 1 << (k + 1) % 8);
        }
        for (int k = 0; k < 10; k++) {
            body.request(k, k, k);
        }
        Checks.write(body, "x".repeat(100));
        return body;
    }

    private static void firstError() {
        Checks.sentence("If several apply to a call, the first one in this order is returned");
        Checks.refused("addThruster", HistoryEdgesTest::full, Checks.BAD_INDEX, b -> b.addThruster(11, 0, 0, 1, 2, 1));
        Checks.refused("addThruster", HistoryEdgesTest::full, Checks.BAD_VALUE, b -> b.addThruster(0, 0, 0, 0, 1, 1));
        Checks.refused("addThruster", HistoryEdgesTest::full, Checks.FULL, b -> b.addThruster(0, 0, 0, 1, 1, 1));
        Checks.refused("setState", HistoryEdgesTest::full, Checks.BAD_INDEX, b -> b.setState(8, 3));
        Checks.refused("thruster", HistoryEdgesTest::full, Checks.BAD_INDEX, b -> b.thruster(-1, -1));
        Checks.refused("refuel", HistoryEdgesTest::full, Checks.BAD_INDEX, b -> b.refuel(-1, -1));
        Checks.refused("forbid", HistoryEdgesTest::full, Checks.BAD_VALUE, b -> b.forbid(1));
        Checks.refused("forbid", HistoryEdgesTest::full, Checks.BAD_STATE, b -> b.forbid(129));
        Checks.refused("forbid", HistoryEdgesTest::full, Checks.FULL, b -> b.forbid(5));
        Checks.refused("pulse", HistoryEdgesTest::full, Checks.BAD_INDEX, b -> b.pulse(40001, 0, 0, 8));
        Checks.refused("pulse", HistoryEdgesTest::full, Checks.BAD_VALUE, b -> b.pulse(40001, 0, 0, 7));
        Checks.refused("pulse", HistoryEdgesTest::full, Checks.NONE, b -> b.pulse(40000, 0, 0, 7));
        Checks.refused("request", HistoryEdgesTest::full, Checks.BAD_VALUE, b -> b.request(2001, 0, 0));
        Checks.refused("request", HistoryEdgesTest::full, Checks.FULL, b -> b.request(2000, 0, 0));
        Checks.refused("urge", HistoryEdgesTest::full, Checks.BAD_VALUE, b -> b.urge(2001, 0, 0));
        Checks.refused("urge", HistoryEdgesTest::full, Checks.FULL, b -> b.urge(2000, 0, 0));
        Checks.refused("impulse", HistoryEdgesTest::full, Checks.BAD_INDEX, b -> b.impulse(3, 3));
        Checks.refused("suspect", HistoryEdgesTest::full, Checks.BAD_VALUE, b -> b.suspect(1000001, 0, 0));
        Checks.refused("suspect", HistoryEdgesTest::full, Checks.BAD_STATE, b -> b.suspect(1000000, 0, 0));
        Checks.refused("type", HistoryEdgesTest::full, Checks.BAD_VALUE, b -> b.type(-1));
        Checks.refused("type", HistoryEdgesTest::full, Checks.FULL, b -> b.type('1'));
        Checks.refused("load", HistoryEdgesTest::full, Checks.BAD_STATE, b -> b.load());
    }

    private static void overflow() {
        Checks.sentence("h becomes 31 * h + v (long arithmetic, with overflow)");
        Checks.due("17 numbers of a new body", new ThrusterSelector().digest(), 3679664112224032783L);
        Checks.due("a full body", full().digest(), -9061886292073410512L);
        Checks.due("a rich body", rich().digest(), -1653477893301706394L);
    }

    private static void fiveHundredTwelveCalls() {
        Checks.sentence("An object is used for at most 512 calls after it has been made");
        ThrusterSelector body = Checks.pairs();
        for (int k = 4; k < 512; k++) {
            Checks.due("cycles(20), call " + k, body.cycles(20), 20);
        }
        Checks.due("cycleCount", body.cycleCount(), 508 * 20);
        ThrusterSelector many = new ThrusterSelector();
        for (int k = 0; k < 512; k++) {
            many.request(0, 0, 0);
            many.cycle();
            Checks.due("undo", many.undo(), Math.min(k + 1, 4));
        }
    }
}
