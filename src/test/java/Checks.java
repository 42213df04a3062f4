/** Compares answers with those that are due, and builds bodies for the tests. */
final class Checks {
    static final int NONE = -2000000000;
    static final int BAD_INDEX = -2000000001;
    static final int BAD_VALUE = -2000000002;
    static final int BAD_STATE = -2000000003;
    static final int FULL = -2000000004;

    private static final int MOST_LINES = 40;

    private static int wrong = 0;

    private Checks() {
    }

    static void due(String call, long got, long want) {
        if (got != want) {
            wrong++;
            if (wrong <= MOST_LINES) {
                System.out.println(call + " answered " + got + ", due is " + want);
            }
        }
    }

    static void end() {
        if (wrong != 0) {
            System.out.println(wrong + " answers are not as due");
            System.exit(1);
        }
    }

    /** Two thrusters that push along y from both sides, two along x: each pair shares no tank. */
    static ThrusterSelector pairs() {
        ThrusterSelector body = new ThrusterSelector();
        body.addThruster(5, 0, 1, 4, 0, 2);
        body.addThruster(-5, 0, 1, 4, 1, 2);
        body.addThruster(0, 5, 0, 3, 0, 1);
        body.addThruster(0, -5, 2, 3, 1, 1);
        return body;
    }

    /** Unit impulses (f, 0, 0), (0, 1, 0) and (0, 1, 1): W of the first is tx / f, of the third tt, of the second ty - tt. */
    static ThrusterSelector axes(int strength, int least) {
        ThrusterSelector body = new ThrusterSelector();
        body.addThruster(0, 0, 0, strength, 0, least);
        body.addThruster(0, 0, 1, 1, 0, 1);
        body.addThruster(1, 0, 1, 1, 0, 1);
        return body;
    }

    static void write(ThrusterSelector body, String text) {
        body.clearText();
        for (int k = 0; k < text.length(); k++) {
            body.type(text.charAt(k));
        }
    }
}
