/** Compares answers with those that are due, and builds bodies for the tests. */
final class Checks {
    static final int NONE = -2000000000;
    static final int BAD_INDEX = -2000000001;
    static final int BAD_VALUE = -2000000002;
    static final int BAD_STATE = -2000000003;
    static final int FULL = -2000000004;

    private static final int MOST_LINES = 40;

    private static int wrong = 0;
    private static String sentence = "";

    private Checks() {
    }

    /** Makes a body; each time an equal one. */
    interface Builder {
        ThrusterSelector body();
    }

    /** A call, or a run of calls, on a body. */
    interface Call {
        long on(ThrusterSelector body);
    }

    /** Names the sentence of the document that the calls behind it test, so that a wrong answer tells which one is broken. */
    static void sentence(String words) {
        sentence = "\"" + words + "\": ";
    }

    static void due(String call, long got, long want) {
        if (got != want) {
            wrong++;
            if (wrong <= MOST_LINES) {
                System.out.println(sentence + call + " answered " + got + ", due is " + want);
            }
        }
    }

    /** A call that answers an error leaves the body, its text and its history like those of a twin without the call. */
    static void refused(String call, Builder builder, long want, Call refused) {
        ThrusterSelector body = builder.body();
        due(call, refused.on(body), want);
        sameStates("behind the refused " + call, body, builder.body());
        body = builder.body();
        refused.on(body);
        sameSets("behind the refused " + call, body, builder.body());
    }

    /** Compares two bodies and what undo() brings back in both; their histories are empty then. */
    static void sameStates(String when, ThrusterSelector one, ThrusterSelector two) {
        for (int k = 0; k <= 6; k++) {
            String depth = when + ", " + k + " undone, ";
            due(depth + "digest", one.digest(), two.digest());
            due(depth + "textFault", one.textFault(), two.textFault());
            due(depth + "forbidden sets", forbidden(one), forbidden(two));
            due(depth + "suspects", suspects(one), suspects(two));
            due(depth + "undo", one.undo(), two.undo());
        }
        due(when + ", clearText", one.clearText(), two.clearText());
    }

    private static long forbidden(ThrusterSelector body) {
        long h = 0;
        for (int set = 0; set < 256; set++) {
            h = 31 * h + body.isForbidden(set);
        }
        return h;
    }

    /** Which thrusters count as sound in the latest cycle shows in the suspects alone. */
    private static long suspects(ThrusterSelector body) {
        long h = 0;
        for (int i = 0; i < body.thrusters(); i++) {
            for (int ticks = -body.fired(i); ticks <= 20; ticks += 20) {
                int x = body.impulse(1, 0) + ticks * body.unit(i, 0);
                int y = body.impulse(1, 1) + ticks * body.unit(i, 1);
                h = 31 * h + body.suspect(x, y, body.impulse(1, 2) + ticks * body.unit(i, 2));
            }
        }
        return h;
    }

    private static void sameSets(String when, ThrusterSelector one, ThrusterSelector two) {
        for (int set = 0; set < 256; set++) {
            due(when + ", allow " + set, one.allow(set), two.allow(set));
        }
    }

    static void end() {
        if (wrong != 0) {
            System.out.println(wrong + " answers are not as due");
            System.exit(1);
        }
    }

    /** Two thrusters that push along y from both sides, two along x: each pair shares no tank. */
    static ThrusterSelector pairs() {
        ThrusterSelector body = new ThrusterSelector();
        body.addThruster(5, 0, 1, 4, 0, 2);
        body.addThruster(-5, 0, 1, 4, 1, 2);
        body.addThruster(0, 5, 0, 3, 0, 1);
        body.addThruster(0, -5, 2, 3, 1, 1);
        return body;
    }

    /** Unit impulses (f, 0, 0), (0, 1, 0) and (0, 1, 1): W of the first is tx / f, of the third tt, of the second ty - tt. */
    static ThrusterSelector axes(int strength, int least) {
        ThrusterSelector body = new ThrusterSelector();
        body.addThruster(0, 0, 0, strength, 0, least);
        body.addThruster(0, 0, 1, 1, 0, 1);
        body.addThruster(1, 0, 1, 1, 0, 1);
        return body;
    }

    /** Adds thrusters of tank 0 with least pulses of one tick; each row is x, y, direction, strength. */
    static ThrusterSelector rows(int[]... rows) {
        ThrusterSelector body = new ThrusterSelector();
        for (int[] row : rows) {
            body.addThruster(row[0], row[1], row[2], row[3], 0, 1);
        }
        return body;
    }

    static void write(ThrusterSelector body, String text) {
        body.clearText();
        for (int k = 0; k < text.length(); k++) {
            body.type(text.charAt(k));
        }
    }
}
