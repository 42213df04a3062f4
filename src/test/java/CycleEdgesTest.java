/** Each sentence of the document about the queue, the cycles and the suspicion that names a boundary. */
public final class CycleEdgesTest {
    private static final int[] FAR = {Integer.MIN_VALUE, Integer.MIN_VALUE + 1, Integer.MAX_VALUE - 1, Integer.MAX_VALUE};

    public static void main(String[] args) {
        mostRequests();
        partsOfARequest();
        requestOrder();
        carryAtFirst();
        placesToCancel();
        queuedNumber();
        requestedRange();
        firstRequest();
        emptyQueue();
        targetOfACycle();
        noSelection();
        fuelOfAll();
        boundsOfTheCarry();
        totalAtFirst();
        answerOfACycle();
        numberOfCycles();
        oneCall();
        cycleCount();
        firedRange();
        impulseRange();
        totalRange();
        notMeasurable();
        asDelivered();
        whatExplains();
        soundThen();
        ticksOfTheSuspect();
        ascending();
        nothingExplains();
        Checks.end();
    }

    private static ThrusterSelector queueOf(int count) {
        ThrusterSelector body = new ThrusterSelector();
        for (int k = 0; k < count; k++) {
            body.request(k, -k, 100 + k);
        }
        return body;
    }

    private static void order(String call, ThrusterSelector body, int... first) {
        Checks.due("queued " + call, body.queued(), first.length);
        for (int place = 0; place < first.length; place++) {
            Checks.due("place " + place + " " + call, body.requested(place, 0), first[place]);
            Checks.due("y of place " + place + " " + call, body.requested(place, 1), -first[place]);
            Checks.due("turn of place " + place + " " + call, body.requested(place, 2), 100 + first[place]);
        }
        Checks.due("place " + first.length + " " + call, body.requested(first.length, 0), Checks.BAD_INDEX);
    }

    private static void impulse(String call, ThrusterSelector body, int what, int... due) {
        for (int part = 0; part < 3; part++) {
            Checks.due("impulse(" + what + ", " + part + ") " + call, body.impulse(what, part), due[part]);
        }
    }

    private static void total(String call, ThrusterSelector body, long... due) {
        for (int part = 0; part < 3; part++) {
            Checks.due("total(" + part + ") " + call, body.total(part), due[part]);
        }
    }

    private static void fired(String call, ThrusterSelector body, int... due) {
        for (int i = 0; i < due.length; i++) {
            Checks.due("fired(" + i + ") " + call, body.fired(i), due[i]);
        }
    }

    private static void mostRequests() {
        Checks.sentence("There is a queue of at most 10 requests");
        for (int k = 0; k < 10; k++) {
            Checks.due("request behind " + k, queueOf(k).request(7, -7, 107), k + 1);
            Checks.due("urge behind " + k, queueOf(k).urge(7, -7, 107), k + 1);
        }
        Checks.refused("the eleventh request", () -> queueOf(10), Checks.FULL, b -> b.request(0, 0, 0));
        Checks.refused("the eleventh urge", () -> queueOf(10), Checks.FULL, b -> b.urge(0, 0, 0));
        ThrusterSelector body = queueOf(9);
        body.urge(9, -9, 109);
        order("with an urgent tenth", body, 9, 0, 1, 2, 3, 4, 5, 6, 7, 8);
        body.cancel(9);
        body.request(8, -8, 108);
        order("with another tenth", body, 9, 0, 1, 2, 3, 4, 5, 6, 7, 8);
        body = queueOf(10);
        body.cycle();
        Checks.due("room behind a cycle", body.request(10, -10, 110), 10);
        order("behind a cycle", body, 1, 2, 3, 4, 5, 6, 7, 8, 9, 10);
    }

    private static void partsOfARequest() {
        Checks.sentence("which are impulses with parts from -2000 to 2000");
        int[] edges = {-2000, -1999, 0, 1999, 2000};
        int[] bad = {-2001, 2001, FAR[0], FAR[1], FAR[2], FAR[3]};
        for (int part = 0; part < 3; part++) {
            int at = part;
            for (int edge : edges) {
                int[] p = {1, 2, 3};
                p[part] = edge;
                ThrusterSelector body = new ThrusterSelector();
                Checks.due("request, part " + part + " is " + edge, body.request(p[0], p[1], p[2]), 1);
                Checks.due("urge, part " + part + " is " + edge, body.urge(p[0], p[1], p[2]), 2);
                for (int k = 0; k < 6; k++) {
                    Checks.due("requested", body.requested(k / 3, k % 3), p[k % 3]);
                }
            }
            for (int edge : bad) {
                Checks.refused("request, part " + at + " is " + edge, () -> queueOf(2), Checks.BAD_VALUE, b -> put(b, at, edge, false));
                Checks.refused("urge, part " + at + " is " + edge, () -> queueOf(2), Checks.BAD_VALUE, b -> put(b, at, edge, true));
            }
        }
    }

    private static int put(ThrusterSelector body, int part, int value, boolean first) {
        int[] p = {0, 0, 0};
        p[part] = value;
        return first ? body.urge(p[0], p[1], p[2]) : body.request(p[0], p[1], p[2]);
    }

    private static void requestOrder() {
        Checks.sentence("Returns the number of requests then; BAD_VALUE if an argument is out of range; FULL if there are 10.");
        int[] bad = {-2001, 2001, FAR[0], FAR[3]};
        for (int value : bad) {
            for (int part = 0; part < 3; part++) {
                int at = part;
                Checks.refused("a bad request, when full", () -> queueOf(10), Checks.BAD_VALUE, b -> put(b, at, value, false));
                Checks.refused("a bad urge, when full", () -> queueOf(10), Checks.BAD_VALUE, b -> put(b, at, value, true));
            }
        }
        Checks.refused("a good request, when full", () -> queueOf(10), Checks.FULL, b -> b.request(2000, -2000, 2000));
        Checks.refused("a good urge, when full", () -> queueOf(10), Checks.FULL, b -> b.urge(2000, -2000, 2000));
    }

    private static void carryAtFirst() {
        Checks.sentence("and a carry, an impulse, (0, 0, 0) at first.");
        impulse("at first", new ThrusterSelector(), 0, 0, 0, 0);
        ThrusterSelector body = queueOf(1);
        body.cycle();
        impulse("of the first cycle", body, 2, 0, 0, 100);
    }

    private static void placesToCancel() {
        Checks.sentence("Returns the number of requests that are left; BAD_INDEX if there is no such place.");
        int[] bad = {-1, 3, 9, 10, FAR[0], FAR[3]};
        for (int place : bad) {
            Checks.refused("cancel " + place, () -> queueOf(3), Checks.BAD_INDEX, b -> b.cancel(place));
        }
        Checks.refused("cancel 0 of none", ThrusterSelector::new, Checks.BAD_INDEX, b -> b.cancel(0));
        Checks.refused("cancel 10 of ten", () -> queueOf(10), Checks.BAD_INDEX, b -> b.cancel(10));
        for (int place = 0; place < 10; place++) {
            ThrusterSelector body = queueOf(10);
            Checks.due("cancel " + place, body.cancel(place), 9);
            int[] left = new int[9];
            for (int k = 0; k < 9; k++) {
                left[k] = k < place ? k : k + 1;
            }
            order("behind cancel " + place, body, left);
        }
        ThrusterSelector one = queueOf(1);
        Checks.due("the only one", one.cancel(0), 0);
        order("with none", one);
    }

    private static void queuedNumber() {
        Checks.sentence("Returns the number of requests in the queue.");
        for (int k = 0; k <= 10; k++) {
            Checks.due("queued", queueOf(k).queued(), k);
        }
        ThrusterSelector body = queueOf(2);
        int[] left = {1, 0, 0};
        for (int due : left) {
            body.cycle();
            Checks.due("queued behind a cycle", body.queued(), due);
        }
    }

    private static void requestedRange() {
        Checks.sentence("Returns the part; BAD_INDEX if there is no such place or part.");
        int[] badPart = {-1, 3, FAR[0], FAR[3]};
        int[] badPlace = {-1, 4, 10, FAR[0], FAR[3]};
        for (int part : badPart) {
            Checks.refused("part " + part, () -> queueOf(4), Checks.BAD_INDEX, b -> b.requested(3, part));
            Checks.refused("part " + part + " of no request", ThrusterSelector::new, Checks.BAD_INDEX, b -> b.requested(0, part));
        }
        for (int place : badPlace) {
            Checks.refused("place " + place, () -> queueOf(4), Checks.BAD_INDEX, b -> b.requested(place, 0));
            Checks.refused("place " + place + ", part 3", () -> queueOf(4), Checks.BAD_INDEX, b -> b.requested(place, 3));
        }
        Checks.refused("place 0 of none", ThrusterSelector::new, Checks.BAD_INDEX, b -> b.requested(0, 0));
        Checks.due("the last place of ten", queueOf(10).requested(9, 2), 109);
    }

    private static void firstRequest() {
        Checks.sentence("The first request is taken from the queue");
        for (int count = 1; count <= 10; count++) {
            ThrusterSelector body = queueOf(count);
            body.cycle();
            int[] left = new int[count - 1];
            for (int k = 0; k < count - 1; k++) {
                left[k] = k + 1;
            }
            order("behind a cycle with " + count, body, left);
            impulse("of " + count, body, 2, 0, 0, 100);
        }
        ThrusterSelector body = queueOf(2);
        body.urge(5, -5, 105);
        body.cycle();
        impulse("of the urgent one", body, 2, 5, -5, 105);
    }

    private static void emptyQueue() {
        Checks.sentence("it is (0, 0, 0) if the queue is empty.");
        ThrusterSelector body = Checks.axes(1, 1);
        Checks.due("cycle", body.cycle(), 0);
        impulse("without a request", body, 2, 0, 0, 0);
        body.request(3, 4, 2);
        Checks.due("cycle", body.cycle(), 7);
        Checks.due("cycle", body.cycle(), 0);
        impulse("behind the only request", body, 2, 0, 0, 0);
        impulse("behind the only request", body, 1, 0, 0, 0);
        body.request(3, 4, 2);
        body.cancel(0);
        body.cycle();
        impulse("behind a request that was cancelled", body, 2, 0, 0, 0);
        body.request(-1, 0, 0);
        Checks.due("cycle", body.cycle(), Checks.NONE);
        Checks.due("cycle", body.cycle(), Checks.NONE);
        impulse("is the carry alone", body, 2, -1, 0, 0);
    }

    private static void targetOfACycle() {
        Checks.sentence("The target is the request, plus the carry, minus 20 times the unit impulse of each running thruster.");
        ThrusterSelector body = new ThrusterSelector();
        body.addThruster(10, 10, 0, 10, 0, 1);
        body.addThruster(10, 10, 3, 10, 0, 1);
        body.addThruster(-10, 10, 1, 10, 1, 1);
        for (int i = 0; i < 3; i++) {
            body.setState(i, 2);
        }
        body.refuel(1, 199);
        body.request(2000, -2000, 1999);
        body.cycle();
        // The units are (10, 0, -100), (0, -10, -100); the third has not enough fuel.
        impulse("of two that run", body, 2, 2000 - 200, -2000 + 200, 1999 + 4000);
        impulse("of two that run", body, 1, 200, -200, -4000);
        impulse("of two that run", body, 0, 1800, -1800, 4000);
        body.refuel(1, 200);
        body.request(-2000, -2000, -2000);
        body.cycle();
        // The unit of the third is (0, 10, -100).
        impulse("of three that run", body, 2, 1800 - 2000 - 200, -1800 - 2000, 4000 - 2000 + 6000);
        impulse("of three that run", body, 0, -400, -3800, 4000);
        body.setState(0, 1);
        body.setState(1, 0);
        body.cycle();
        impulse("of none that runs", body, 2, -400, -3800, 4000);
        impulse("of none that runs", body, 1, 0, 0, 0);
        ThrusterSelector most = new ThrusterSelector();
        for (int k = 0; k < 8; k++) {
            most.addThruster(0, -10, 0, 10, k % 2, 1);
            most.setState(k, 2);
        }
        most.request(-2000, 0, -2000);
        most.cycle();
        impulse("of eight that run", most, 2, -3600, 0, -18000);
        impulse("of eight that run", most, 1, 1600, 0, 16000);
        impulse("of eight that run", most, 0, -3600, 0, -4000);
        most.request(-2000, 0, -2000);
        most.cycle();
        impulse("of eight that run on", most, 2, -7200, 0, -22000);
    }

    private static void noSelection() {
        Checks.sentence("The selection for the target is found; if there is none, all pulses are 0.");
        ThrusterSelector body = Checks.axes(1, 1);
        body.request(3, 4, 2);
        body.request(-1, 4, 2);
        body.cycle();
        fired("of a selection", body, 3, 2, 2);
        Checks.due("cycle", body.cycle(), Checks.NONE);
        fired("of none", body, 0, 0, 0);
        impulse("of none", body, 1, 0, 0, 0);
        impulse("of none", body, 0, -1, 4, 2);
        Checks.due("fuel of none", body.fuel(0), 100000 - 7);
        // What is carried and what is requested make up for each other: there is an empty selection then.
        body.request(1, -4, -2);
        Checks.due("cycle", body.cycle(), 0);
        impulse("of the empty selection", body, 2, 0, 0, 0);
        body.forbid(3);
        body.setState(0, 2);
        body.setState(1, 2);
        body.request(20, 20, 0);
        Checks.due("the empty selection, though all is forbidden", body.cycle(), 0);
        body.request(20, 20, 1);
        Checks.due("no selection, as all is forbidden", body.cycle(), Checks.NONE);
        fired("as all is forbidden", body, 0, 0, 0);
        impulse("as all is forbidden", body, 1, 20, 20, 0);
    }

    /** Three that need all of their 20 ticks for (0, 400, 200), as one runs against the first of them. */
    private static ThrusterSelector greedy(int runningTank, int fuel) {
        ThrusterSelector body = Checks.rows(new int[] {0, 0, 0, 10}, new int[] {0, 0, 1, 10}, new int[] {1, 0, 1, 10});
        body.addThruster(0, 0, 2, 10, runningTank, 1);
        body.setState(3, 2);
        body.refuel(0, fuel);
        body.request(0, 400, 200);
        return body;
    }

    private static void fuelOfAll() {
        Checks.sentence("If a tank has less than all of them use together, all of them fire in full all the same, and it has 0 units then.");
        int[][] rows = {{600, 0}, {601, 0}, {799, 0}, {800, 0}, {801, 1}, {100000, 99200}};
        for (int[] row : rows) {
            ThrusterSelector body = greedy(0, row[0]);
            Checks.due("cycle with " + row[0], body.cycle(), 7);
            fired("with " + row[0], body, 20, 20, 20, 0);
            impulse("with " + row[0], body, 1, 0, 400, 200);
            impulse("with " + row[0], body, 0, 0, 0, 0);
            Checks.due("fuel behind " + row[0], body.fuel(0), row[1]);
            Checks.due("fuel of the other tank", body.fuel(1), 100000);
        }
        ThrusterSelector two = greedy(1, 600);
        two.refuel(1, 200);
        Checks.due("cycle with a tank for the running one", two.cycle(), 7);
        Checks.due("fuel(0)", two.fuel(0), 0);
        Checks.due("fuel(1)", two.fuel(1), 0);
        Checks.due("running then", two.thruster(3, 8), 0);
        Checks.due("cycle without fuel", two.cycle(), 0);
        impulse("without fuel", two, 1, 0, 0, 0);
        ThrusterSelector many = new ThrusterSelector();
        for (int k = 0; k < 8; k++) {
            many.addThruster(0, 0, 1, 10, 0, 1);
            many.setState(k, 2);
        }
        many.refuel(0, 200);
        many.cycle();
        impulse("of eight with fuel for one", many, 1, 0, 1600, 0);
        Checks.due("fuel of eight", many.fuel(0), 0);
        many.refuel(0, 199);
        many.cycle();
        impulse("of eight with fuel for none", many, 1, 0, 0, 0);
        Checks.due("fuel is not used", many.fuel(0), 199);
    }

    private static void boundsOfTheCarry() {
        Checks.sentence("The carry becomes the target minus the impulses of the selected thrusters, but each part at least -4000 and at most 4000.");
        int[][] rows = {{1999, 3999, 3999}, {2000, 4000, 4000}, {-1999, -3999, -3999}, {-2000, -4000, -4000}};
        for (int[] row : rows) {
            for (int part = 0; part < 3; part++) {
                ThrusterSelector body = new ThrusterSelector();
                put(body, part, row[0] < 0 ? -2000 : 2000, false);
                put(body, part, row[0], false);
                put(body, part, row[0] < 0 ? -1 : 1, false);
                int[] due = new int[3];
                body.cycles(2);
                due[part] = row[2];
                impulse("in two cycles", body, 2, due);
                impulse("in two cycles", body, 0, due);
                body.cycle();
                due[part] = row[2] + (row[0] < 0 ? -1 : 1);
                impulse("in three cycles", body, 2, due);
                due[part] = row[0] < 0 ? -4000 : 4000;
                impulse("in three cycles", body, 0, due);
                body.cycle();
                impulse("in four cycles", body, 2, due);
            }
        }
        // What is rounded is carried, also below 0.
        ThrusterSelector body = Checks.axes(10, 1);
        int[][] steps = {{4, 0, 4}, {1, 1, -5}, {5, 0, 0}, {195, 20, -5}, {9, 0, 4}, {-4, 0, 0}};
        for (int[] step : steps) {
            body.request(step[0], 0, 0);
            body.cycle();
            fired("with " + step[0] + " more", body, step[1]);
            impulse("with " + step[0] + " more", body, 0, step[2], 0, 0);
        }
    }

    private static void totalAtFirst() {
        Checks.sentence("The delivered impulse is added to the total, (0, 0, 0) at first.");
        total("at first", new ThrusterSelector(), 0, 0, 0);
        ThrusterSelector body = Checks.axes(1, 1);
        body.request(3, 4, 2);
        body.request(-1, 0, 0);
        body.cycle();
        total("behind one", body, 3, 4, 2);
        body.cycle();
        total("behind none", body, 3, 4, 2);
        body.addThruster(-10, 0, 3, 10, 1, 1);
        body.setState(3, 2);
        body.cycle();
        total("with one that runs", body, 3, 4 - 200, 2 + 2000);
        body.cycles(20);
        total("with one that runs on", body, 3, 4 - 21 * 200, 2 + 21 * 2000);
    }

    private static void answerOfACycle() {
        Checks.sentence("Returns the set of thrusters whose pulse is above 0, as a mask; NONE if there was no selection.");
        Checks.due("without thrusters", new ThrusterSelector().cycle(), 0);
        Checks.due("a request, without thrusters", queueOf(1).cycle(), Checks.NONE);
        ThrusterSelector body = Checks.axes(10, 1);
        body.request(4, 1, 1);
        Checks.due("select", body.select(4, 1, 1), 5);
        Checks.due("one has W above 0, but no pulse", body.cycle(), 4);
        body = Checks.axes(10, 3);
        body.request(14, 0, 0);
        Checks.due("its pulse would be below its least one", body.cycle(), 0);
        body.request(1, 0, 0);
        Checks.due("its pulse is its least one", body.cycle(), 1);
        ThrusterSelector last = new ThrusterSelector();
        for (int k = 0; k < 5; k++) {
            last.addThruster(0, 0, 2, 1, 0, 1);
        }
        last.addThruster(0, 0, 0, 1, 0, 1);
        last.addThruster(0, 0, 1, 1, 0, 1);
        last.addThruster(1, 0, 1, 1, 0, 1);
        last.request(1, 2, 1);
        Checks.due("the last three", last.cycle(), 224);
    }

    private static void numberOfCycles() {
        Checks.sentence("Returns in how many there was a selection; BAD_VALUE if many is out of range.");
        int[] bad = {-20, -1, 0, 21, FAR[0], FAR[3]};
        for (int many : bad) {
            Checks.refused("cycles(" + many + ")", () -> queueOf(3), Checks.BAD_VALUE, b -> b.cycles(many));
        }
        for (int many = 1; many <= 20; many++) {
            ThrusterSelector body = Checks.axes(1, 1);
            Checks.due("cycles(" + many + ")", body.cycles(many), many);
            Checks.due("cycleCount", body.cycleCount(), many);
        }
        Checks.due("none of them", queueOf(1).cycles(20), 0);
        ThrusterSelector body = Checks.axes(1, 1);
        body.request(3, 0, 0);
        body.request(-1, 0, 0);
        body.request(3, 0, 0);
        body.request(-1, 0, 0);
        Checks.due("two of four", body.cycles(4), 2);
        impulse("is that of the last one", body, 1, 0, 0, 0);
        impulse("is that of the last one", body, 2, -1, 0, 0);
        total("is that of all", body, 5, 0, 0);
        Checks.due("one with an empty selection counts", queueOf(0).cycles(1), 1);
    }

    private static void oneCall() {
        Checks.sentence("Does several cycles. Recorded, as one call.");
        ThrusterSelector body = queueOf(2);
        Checks.due("cycles(20)", body.cycles(20), 0);
        Checks.due("undo", body.undo(), 2);
        Checks.sameStates("behind undo", body, queueOf(2));
        ThrusterSelector single = queueOf(4);
        single.cycles(1);
        Checks.due("undo of one", single.undo(), 4);
        Checks.due("queued", single.queued(), 4);
    }

    private static void cycleCount() {
        Checks.sentence("Returns the number of cycles.");
        ThrusterSelector body = queueOf(1);
        Checks.due("at first", body.cycleCount(), 0);
        body.cycle();
        Checks.due("without a selection", body.cycleCount(), 1);
        body.cycles(20);
        Checks.due("behind 20 more", body.cycleCount(), 21);
        body.undo();
        Checks.due("behind undo", body.cycleCount(), 1);
        for (int k = 0; k < 480; k++) {
            body.cycles(20);
        }
        Checks.due("of a long life", body.cycleCount(), 9601);
    }

    private static void firedRange() {
        Checks.sentence("Returns the pulse; 0 if there was no cycle, or the thruster was added behind it; BAD_INDEX if there is no such thruster.");
        int[] bad = {-1, 3, 8, FAR[0], FAR[3]};
        for (int thruster : bad) {
            Checks.refused("fired(" + thruster + ")", () -> Checks.axes(1, 1), Checks.BAD_INDEX, b -> b.fired(thruster));
        }
        Checks.refused("without thrusters", ThrusterSelector::new, Checks.BAD_INDEX, b -> b.fired(0));
        ThrusterSelector body = Checks.axes(1, 1);
        fired("without a cycle", body, 0, 0, 0);
        body.request(1, 6, 4);
        body.cycle();
        fired("of the cycle", body, 1, 2, 4);
        body.addThruster(0, 0, 0, 1, 0, 1);
        fired("with one added behind it", body, 1, 2, 4, 0);
        body.request(1, 6, 4);
        body.setState(0, 1);
        body.cycle();
        fired("of the next one", body, 0, 2, 4, 1);
        for (int k = 0; k < 5; k++) {
            body.undo();
        }
        fired("behind undo", body, 0, 0, 0);
        body.cycle();
        body.addThruster(0, 0, 0, 1, 0, 1);
        fired("with another one added", body, 1, 2, 4, 0);
    }

    private static void impulseRange() {
        Checks.sentence("Returns the part; BAD_INDEX if there is no such part; BAD_VALUE if what is out of range.");
        int[] bad = {-1, 3, FAR[0], FAR[3]};
        for (int value : bad) {
            Checks.refused("what " + value, () -> queueOf(1), Checks.BAD_VALUE, b -> b.impulse(value, 0));
            Checks.refused("what " + value + ", part 2", () -> queueOf(1), Checks.BAD_VALUE, b -> b.impulse(value, 2));
            Checks.refused("part " + value, () -> queueOf(1), Checks.BAD_INDEX, b -> b.impulse(0, value));
            Checks.refused("part " + value + ", what 2", () -> queueOf(1), Checks.BAD_INDEX, b -> b.impulse(2, value));
            Checks.refused("part and what " + value, () -> queueOf(1), Checks.BAD_INDEX, b -> b.impulse(value, value));
        }
        Checks.sentence("both (0, 0, 0) without one");
        ThrusterSelector body = queueOf(1);
        for (int what = 0; what < 3; what++) {
            impulse("without a cycle", body, what, 0, 0, 0);
        }
        body.cycle();
        body.undo();
        for (int what = 0; what < 3; what++) {
            impulse("without a cycle again", body, what, 0, 0, 0);
        }
    }

    private static void totalRange() {
        Checks.sentence("Returns the part; BAD_INDEX if there is no such part.");
        int[] bad = {-1, 3, FAR[0], FAR[3]};
        for (int part : bad) {
            Checks.refused("total(" + part + ")", () -> queueOf(1), Checks.BAD_INDEX, b -> b.total(part));
        }
    }

    private static ThrusterSelector measured() {
        ThrusterSelector body = Checks.pairs();
        body.request(9, 44, 11);
        body.cycle();
        return body;
    }

    private static void notMeasurable() {
        Checks.sentence("Returns 0, or the code of the suspect; NONE if nothing explains it; BAD_VALUE if an argument is out of range; BAD_STATE if there was no cycle.");
        int[] bad = {-1000001, 1000001, FAR[0], FAR[1], FAR[2], FAR[3]};
        for (int value : bad) {
            Checks.refused("x " + value, CycleEdgesTest::measured, Checks.BAD_VALUE, b -> b.suspect(value, 0, 0));
            Checks.refused("y " + value, CycleEdgesTest::measured, Checks.BAD_VALUE, b -> b.suspect(0, value, 0));
            Checks.refused("turn " + value, CycleEdgesTest::measured, Checks.BAD_VALUE, b -> b.suspect(0, 0, value));
            Checks.refused("x " + value + ", no cycle", Checks::pairs, Checks.BAD_VALUE, b -> b.suspect(value, 0, 0));
            Checks.refused("turn " + value + ", no cycle", ThrusterSelector::new, Checks.BAD_VALUE, b -> b.suspect(0, 0, value));
        }
        int[] far = {-1000000, 1000000};
        for (int value : far) {
            Checks.refused("x " + value + ", no cycle", Checks::pairs, Checks.BAD_STATE, b -> b.suspect(value, 0, 0));
            Checks.due("x " + value, measured().suspect(value, 0, 0), Checks.NONE);
            Checks.due("y " + value, measured().suspect(0, value, 0), Checks.NONE);
            Checks.due("turn " + value, measured().suspect(0, 0, value), Checks.NONE);
        }
        Checks.refused("no cycle", ThrusterSelector::new, Checks.BAD_STATE, b -> b.suspect(0, 0, 0));
        ThrusterSelector body = measured();
        body.undo();
        Checks.due("no cycle behind undo", body.suspect(0, 0, 0), Checks.BAD_STATE);
    }

    private static void asDelivered() {
        Checks.sentence("If it is the delivered one, nothing is suspected (0).");
        ThrusterSelector body = new ThrusterSelector();
        body.cycle();
        Checks.due("nothing", body.suspect(0, 0, 0), 0);
        Checks.due("as delivered", measured().suspect(9, 44, 15), 0);
        Checks.due("x is one less", measured().suspect(8, 44, 15), Checks.NONE);
        Checks.due("y is one less", measured().suspect(9, 43, 15), Checks.NONE);
        Checks.due("the turn is one less", measured().suspect(9, 44, 14), Checks.NONE);
        Checks.due("the target instead", measured().suspect(9, 44, 11), Checks.NONE);
        // Here the target differs from the delivered impulse in all parts.
        ThrusterSelector rounded = Checks.rows(new int[] {0, 0, 0, 10}, new int[] {0, 0, 1, 10}, new int[] {1, 0, 1, 10}, new int[] {2, 0, 1, 1});
        rounded.setState(3, 2);
        rounded.request(54, 137, 71);
        rounded.cycle();
        impulse("of rounded pulses", rounded, 2, 54, 117, 31);
        impulse("of rounded pulses", rounded, 1, 50, 140, 70);
        Checks.due("as delivered, with rounded pulses", rounded.suspect(50, 140, 70), 0);
        Checks.due("as requested", rounded.suspect(54, 137, 71), Checks.NONE);
        Checks.due("0 off", rounded.suspect(0, 140, 70), 100);
        Checks.due("1 on", rounded.suspect(50, 250, 70), 201);
        // A thruster that fires for 20 ticks of 20, or for none: it changes nothing, so it is not suspected.
        ThrusterSelector full = Checks.axes(1, 1);
        full.request(20, 0, 0);
        full.cycle();
        Checks.due("as delivered, with 20 ticks and none", full.suspect(20, 0, 0), 0);
    }

    private static void whatExplains() {
        Checks.sentence("Otherwise the suspect is the first of these that explains it");
        int[][] units = {{0, 4, 20}, {0, 4, -20}, {3, 0, -15}, {-3, 0, -15}};
        int[] pulses = {7, 4, 3, 0};
        for (int i = 0; i < 4; i++) {
            for (int ticks = -8; ticks <= 20; ticks++) {
                int code = ticks == 0 ? 0 : ticks == -pulses[i] ? 100 + i : ticks == 20 - pulses[i] ? 200 + i : Checks.NONE;
                int[] u = units[i];
                Checks.due(ticks + " ticks of " + i, measured().suspect(9 + ticks * u[0], 44 + ticks * u[1], 15 + ticks * u[2]), code);
            }
        }
    }

    private static void soundThen() {
        Checks.sentence("for a thruster i that was sound in this cycle (whatever it is now)");
        for (int now = 0; now < 3; now++) {
            ThrusterSelector body = measured();
            body.setState(0, now);
            Checks.due("100, state " + now, body.suspect(9, 16, -125), 100);
            Checks.due("200, state " + now, body.suspect(9, 96, 275), 200);
            for (int then = 1; then < 3; then++) {
                body = Checks.axes(1, 1);
                body.setState(0, then);
                body.refuel(0, 19);
                body.cycle();
                body.setState(0, now);
                Checks.due("failed then (" + then + "), now " + now, body.suspect(20, 0, 0), Checks.NONE);
                Checks.due("sound then, and without fuel", body.suspect(0, 20, 20), 202);
                body.refuel(0, 20);
                body.setState(0, then);
                body.cycle();
                body.setState(0, now);
                int fires = then == 2 ? 20 : 0;
                Checks.due("failed then (" + then + "), off", body.suspect(0, 0, 0), then == 2 ? Checks.NONE : 0);
                Checks.due("failed then (" + then + "), on", body.suspect(fires + 20, 0, 0), Checks.NONE);
            }
        }
        ThrusterSelector body = measured();
        body.addThruster(0, 0, 0, 1, 0, 1);
        Checks.due("it was not there", body.suspect(29, 44, 15), Checks.NONE);
        body.cycle();
        Checks.due("it is there now", body.suspect(body.impulse(1, 0) + 20, body.impulse(1, 1), body.impulse(1, 2)), 204);
        body.undo();
        Checks.due("it was not there, behind undo", body.suspect(29, 44, 15), Checks.NONE);
    }

    private static void ticksOfTheSuspect() {
        Checks.sentence("whose pulse was above 0");
        for (int pulse = 0; pulse <= 20; pulse++) {
            ThrusterSelector body = Checks.axes(1, 1);
            body.request(pulse, 0, 0);
            body.cycle();
            Checks.due("off, pulse " + pulse, body.suspect(0, 0, 0), pulse == 0 ? 0 : 100);
            Checks.sentence("and whose pulse was less than 20");
            Checks.due("on, pulse " + pulse, body.suspect(20, 0, 0), pulse == 20 ? 0 : 200);
            Checks.due("on for 20 more, pulse " + pulse, body.suspect(20 + pulse, 0, 0), pulse == 0 ? 200 : Checks.NONE);
            Checks.due("off twice, pulse " + pulse, body.suspect(-pulse, 0, 0), pulse == 0 ? 0 : Checks.NONE);
        }
    }

    private static void ascending() {
        Checks.sentence("for ascending i; for a thruster i that was sound in this cycle");
        // 0 and 3 are alike, and so are 4 and 5, which push back: off comes before on.
        ThrusterSelector body = Checks.axes(1, 1);
        body.addThruster(0, 0, 0, 1, 0, 1);
        body.addThruster(0, 0, 2, 1, 0, 1);
        body.addThruster(0, 0, 2, 1, 0, 1);
        body.request(20, 0, 0);
        body.cycle();
        Checks.due("0 off, or 4 or 5 on", body.suspect(0, 0, 0), 100);
        Checks.due("3 on", body.suspect(40, 0, 0), 203);
        body.request(19, 0, 0);
        body.cycle();
        Checks.due("4 on, or 5", body.suspect(-1, 0, 0), 204);
        Checks.due("0 off", body.suspect(0, 0, 0), 100);
        Checks.due("0 on", body.suspect(20, 0, 0), 200);
        body.setState(0, 1);
        body.setState(4, 1);
        body.cycle();
        Checks.due("3 on, not 0", body.suspect(20, 0, 0), 203);
        Checks.due("5 on, not 4", body.suspect(-20, 0, 0), 205);
        // Two with equal pulses of equal impulses: the first of them.
        ThrusterSelector two = Checks.rows(new int[] {2, 0, 1, 1}, new int[] {2, 0, 1, 1}, new int[] {0, 0, 0, 1}, new int[] {0, 0, 1, 1});
        two.forbid(5);
        two.request(3, 3, 6);
        Checks.due("the second of two alike", two.cycle(), 6);
        Checks.due("the second off", two.suspect(3, 0, 0), 101);
        Checks.due("the first on", two.suspect(3, 23, 46), 200);
        Checks.due("the second on", two.suspect(3, 20, 40), 201);
        ThrusterSelector both = Checks.rows(new int[] {2, 0, 1, 1}, new int[] {0, 0, 0, 1}, new int[] {0, 0, 1, 1}, new int[] {2, 0, 1, 1});
        both.request(0, 20, 40);
        both.cycle();
        Checks.due("the last on", both.suspect(0, 40, 80), 203);
        ThrusterSelector eight = new ThrusterSelector();
        for (int k = 0; k < 8; k++) {
            eight.addThruster(0, 0, k == 7 ? 1 : 0, 1, 0, 1);
        }
        eight.cycle();
        Checks.due("the first of seven", eight.suspect(20, 0, 0), 200);
        Checks.due("the eighth", eight.suspect(0, 20, 0), 207);
    }

    private static void nothingExplains() {
        Checks.sentence("NONE if nothing explains it");
        Checks.due("without thrusters", afterCycle(new ThrusterSelector()).suspect(1, 0, 0), Checks.NONE);
        Checks.due("two of them", measured().suspect(0, 16, -80), Checks.NONE);
        ThrusterSelector body = Checks.axes(1, 1);
        body.setState(0, 2);
        body.cycle();
        Checks.due("the running one off", body.suspect(0, 0, 0), Checks.NONE);
        Checks.due("the latest cycle counts", afterCycle(measured()).suspect(9, 16, -125), Checks.NONE);
    }

    private static ThrusterSelector afterCycle(ThrusterSelector body) {
        body.cycle();
        return body;
    }
}
