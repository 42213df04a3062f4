/** Promises 1 to 33: long runs of calls, the same on the class and on the model. */
public final class ModelTest {
    private static final int RUNS = 150;
    private static final int CALLS = 512;

    private static long seed;

    public static void main(String[] args) {
        int selections = 0;
        for (int run = 0; run < RUNS; run++) {
            seed = 1000003L * run + 17;
            selections += compare(run);
        }
        if (selections < 10 * RUNS) {
            Checks.due("selections in all runs", selections, 10 * RUNS);
        }
        Checks.end();
    }

    private static int compare(int run) {
        ThrusterSelector body = new ThrusterSelector();
        Model model = new Model();
        boolean symmetric = run % 3 == 0;
        for (int k = 0; k < CALLS; k++) {
            // Bodies are built first, so that most calls meet a body that can do something.
            int what = k < 6 ? 0 : any(0, 39);
            String call = "run " + run + ", call " + k + ", kind " + what;
            oneCall(call, what, body, model, symmetric);
            Checks.due(call + ", digest after it", body.digest(), model.digest());
        }
        return model.selections;
    }

    private static int any(int low, int high) {
        seed = seed * 6364136223846793005L + 1442695040888963407L;
        return low + (int) Long.remainderUnsigned(seed >>> 33, (long) high - low + 1);
    }

    /** Mostly from low to high, now and then one beside it. */
    private static int near(int low, int high) {
        int kind = any(0, 39);
        return kind == 0 ? low - 1 : kind == 1 ? high + 1 : any(low, high);
    }

    private static int[] vector(int most) {
        int scale = any(0, 3);
        int size = scale == 0 ? 20 : scale == 1 ? 100 : scale == 2 ? 500 : most;
        int[] v = {near(-size, size), near(-size, size), near(-size, size)};
        int zeros = any(0, 11);
        for (int part = 0; part < 3; part++) {
            v[part] = (zeros >> part) % 2 == 1 && zeros < 8 ? 0 : v[part];
        }
        return v;
    }

    private static int[] newThruster(boolean symmetric, int number) {
        if (symmetric) {
            // The same few places again and again give many equal prices.
            int side = number % 2 == 0 ? 1 : -1;
            return new int[] {side * any(1, 2), side * any(0, 1), number % 4, any(1, 2), any(0, 1), any(1, 3)};
        }
        return new int[] {near(-10, 10), near(-10, 10), near(0, 3), near(1, 10), near(0, 1), near(1, 10)};
    }

    private static int[] measured(Model model) {
        int[] m = model.now.delivered.clone();
        int kind = any(0, 4);
        if (kind == 0) {
            return vector(1000000);
        }
        if (kind < 4 && !model.now.thrusters.isEmpty()) {
            int i = any(0, model.now.thrusters.size() - 1);
            int pulse = (int) model.fired(i);
            int ticks = kind == 1 ? 20 - pulse : -pulse;
            for (int part = 0; part < 3; part++) {
                m[part] += ticks * (int) model.unit(i, part);
            }
        }
        return m;
    }

    private static void oneCall(String call, int what, ThrusterSelector body, Model model, boolean symmetric) {
        if (what < 12) {
            build(call, what, body, model, symmetric);
        } else if (what < 24) {
            use(call, what, body, model);
        } else if (what < 32) {
            look(call, what, body, model);
        } else {
            textCall(call, what, body, model);
        }
    }

    private static void build(String call, int what, ThrusterSelector body, Model model, boolean symmetric) {
        int i = near(0, Math.max(0, model.now.thrusters.size() - 1));
        switch (what) {
            case 0, 1 -> {
                int[] a = newThruster(symmetric, model.now.thrusters.size());
                Checks.due(call, body.addThruster(a[0], a[1], a[2], a[3], a[4], a[5]), model.addThruster(a));
            }
            case 2, 3, 4 -> {
                int state = any(0, 2) == 0 ? near(0, 2) : 0;
                Checks.due(call, body.setState(i, state), model.setState(i, state));
            }
            case 5, 6, 7 -> {
                int tank = near(0, 1);
                int units = any(0, 1) == 0 ? near(0, 100000) : any(590, 1400);
                Checks.due(call, body.refuel(tank, units), model.refuel(tank, units));
            }
            case 8, 9 -> {
                int set = any(0, 3) == 0 ? near(0, 255) : 1 << any(0, 7) | 1 << any(0, 7);
                Checks.due(call, body.forbid(set), model.forbid(set));
            }
            case 10 -> {
                int sets = model.now.sets.size();
                int set = sets > 0 ? model.now.sets.get(any(0, sets - 1)) : any(0, 255);
                Checks.due(call, body.allow(set), model.allow(set));
            }
            default -> Checks.due(call, body.undo(), model.undo());
        }
    }

    private static void use(String call, int what, ThrusterSelector body, Model model) {
        int[] v = vector(what < 15 ? 40000 : 2000);
        switch (what) {
            case 12 -> Checks.due(call, body.select(v[0], v[1], v[2]), model.select(v));
            case 13 -> {
                for (int i = -1; i <= 8; i++) {
                    Checks.due(call, body.pulse(v[0], v[1], v[2], i), model.pulse(v, i));
                }
            }
            case 14 -> Checks.due(call, body.price(v[0], v[1], v[2]), model.price(v));
            case 15, 16 -> Checks.due(call, body.request(v[0], v[1], v[2]), model.put(v, false));
            case 17 -> Checks.due(call, body.urge(v[0], v[1], v[2]), model.put(v, true));
            case 18 -> {
                int place = near(0, Math.max(0, model.now.queue.size() - 1));
                Checks.due(call, body.cancel(place), model.cancel(place));
            }
            case 19, 20, 21 -> Checks.due(call, body.cycle(), model.cycle());
            case 22 -> {
                int many = near(1, any(0, 3) == 0 ? 20 : 2);
                Checks.due(call, body.cycles(many), model.cycles(many));
            }
            default -> {
                int[] m = measured(model);
                Checks.due(call, body.suspect(m[0], m[1], m[2]), model.suspect(m));
            }
        }
    }

    private static void look(String call, int what, ThrusterSelector body, Model model) {
        int i = near(0, 7);
        int part = near(0, 2);
        switch (what) {
            case 24 -> {
                int property = near(7, 8);
                Checks.due(call, body.thruster(i, property), model.thruster(i, property));
            }
            case 25 -> Checks.due(call, body.unit(i, part), model.unit(i, part));
            case 26 -> {
                int two = near(0, 7);
                int three = near(0, 7);
                Checks.due(call, body.determinant(i, two, three), model.determinant(i, two, three));
            }
            case 27 -> {
                int set = near(0, 255);
                Checks.due(call, body.isForbidden(set), model.isForbidden(set));
            }
            case 28 -> Checks.due(call, body.requested(i, part), model.requested(i, part));
            case 29 -> {
                int row = near(0, 2);
                Checks.due(call, body.impulse(row, part), model.impulse(row, part));
            }
            case 30 -> Checks.due(call, body.total(part) + body.fired(i), model.total(part) + model.fired(i));
            default -> {
                Checks.due(call, body.thrusters(), model.now.thrusters.size());
                Checks.due(call, body.queued(), model.now.queue.size());
                Checks.due(call, body.cycleCount(), model.now.cycles);
                Checks.due(call, body.fuel(part - 1), model.fuel(part - 1));
            }
        }
    }

    private static void textCall(String call, int what, ThrusterSelector body, Model model) {
        switch (what) {
            case 32, 33, 34 -> write(call, body, model);
            case 35, 36 -> Checks.due(call, body.textFault(), model.textFault());
            case 37 -> Checks.due(call, body.clearText(), model.clearText());
            default -> Checks.due(call, body.load(), model.load());
        }
    }

    /** Types a few requests that are mostly right, often behind a ; that goes on with what stands there. */
    private static void write(String call, ThrusterSelector body, Model model) {
        if (any(0, 2) > 0) {
            Checks.due(call, body.clearText(), model.clearText());
        }
        StringBuilder text = new StringBuilder(model.text.length() > 0 ? ";" : "");
        int many = any(1, 4);
        for (int k = 0; k < many; k++) {
            text.append(k > 0 ? ";" : "").append(any(0, 2) == 0 ? "!" : "");
            for (int part = 0; part < 3; part++) {
                text.append(part > 0 ? "," : "").append(any(0, 2) == 0 ? "-" : "");
                text.append(any(0, 9) == 0 ? "00" : "").append(any(0, 29) == 0 ? any(1990, 2010) : any(0, 200));
            }
        }
        for (int k = any(0, 3); k > 0; k--) {
            text.insert(any(0, text.length()), ' ');
        }
        if (any(0, 3) == 0) {
            text.setCharAt(any(0, text.length() - 1), "0,;!- x9".charAt(any(0, 7)));
        }
        for (int k = 0; k < text.length(); k++) {
            Checks.due(call, body.type(text.charAt(k)), model.type(text.charAt(k)));
        }
        Checks.due(call + " '" + model.text + "'", body.textFault(), model.textFault());
    }
}
