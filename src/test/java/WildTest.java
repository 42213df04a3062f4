/** No call throws, whatever its arguments are, and the same calls give the same answers on two objects. */
public final class WildTest {
    private static final int CALLS = 20000;
    private static final int KINDS = 32;
    private static final int[] WILD = {
        Integer.MIN_VALUE, Integer.MIN_VALUE + 1, -2000000000, -1000000, -40000, -2000, -1, 256, 2000, 40000, 100000, 1000000,
        Integer.MAX_VALUE - 1, Integer.MAX_VALUE,
    };

    private static long seed = 5;

    public static void main(String[] args) {
        ThrusterSelector one = new ThrusterSelector();
        ThrusterSelector two = new ThrusterSelector();
        for (int k = 0; k < CALLS; k++) {
            int kind = any(KINDS);
            int[] a = new int[6];
            boolean wild = any(3) == 0;
            for (int i = 0; i < a.length; i++) {
                a[i] = wild && any(2) == 0 ? WILD[any(WILD.length)] : any(any(4) == 0 ? 60 : 3);
            }
            Checks.due("call " + k + ", kind " + kind, answer(one, kind, a), answer(two, kind, a));
        }
        Checks.due("digest of both", one.digest(), two.digest());
        Checks.end();
    }

    private static int any(int many) {
        seed = seed * 6364136223846793005L + 1442695040888963407L;
        return (int) ((seed >>> 33) % many);
    }

    private static long answer(ThrusterSelector body, int kind, int[] a) {
        return switch (kind) {
            case 0 -> body.addThruster(a[0], a[1], a[2], a[3], a[4], a[5]);
            case 1 -> body.setState(a[0], a[1]);
            case 2 -> body.thrusters();
            case 3 -> body.thruster(a[0], a[1]);
            case 4 -> body.unit(a[0], a[1]);
            case 5 -> body.determinant(a[0], a[1], a[2]);
            case 6 -> body.refuel(a[0], a[1]);
            case 7 -> body.fuel(a[0]);
            case 8 -> body.forbid(a[0]);
            case 9 -> body.allow(a[0]);
            case 10 -> body.isForbidden(a[0]);
            case 11 -> body.select(a[0], a[1], a[2]);
            case 12 -> body.pulse(a[0], a[1], a[2], a[3]);
            case 13 -> body.price(a[0], a[1], a[2]);
            case 14 -> body.request(a[0], a[1], a[2]);
            case 15 -> body.urge(a[0], a[1], a[2]);
            case 16 -> body.cancel(a[0]);
            case 17 -> body.queued();
            case 18 -> body.requested(a[0], a[1]);
            case 19 -> body.cycle();
            case 20 -> body.cycles(a[0]);
            case 21 -> body.cycleCount();
            case 22 -> body.fired(a[0]);
            case 23 -> body.impulse(a[0], a[1]);
            case 24 -> body.total(a[0]);
            case 25 -> body.suspect(a[0], a[1], a[2]);
            case 26 -> body.undo();
            case 27, 28 -> body.type(a[0] < 60 && a[0] >= 0 ? "0,;!- 1".charAt(a[0] % 7) : a[0]);
            case 29 -> a[5] > 20 ? body.clearText() : body.textFault();
            case 30 -> body.load();
            default -> body.digest();
        };
    }
}
