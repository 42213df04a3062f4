/** Each sentence of the document about the selection and its pulses that names a boundary. */
public final class SelectionEdgesTest {
    private static final int[] FAR = {-40001, 40001, Integer.MIN_VALUE, Integer.MAX_VALUE};

    /** W of these is tx / 10, (ty - tt) / 10 and tt / 10. */
    private static final int[][] TENS = {{0, 0, 0, 10}, {0, 0, 1, 10}, {1, 0, 1, 10}};

    public static void main(String[] args) {
        emptyTarget();
        threeUsable();
        determinants();
        fromNothingToTwenty();
        notForbidden();
        emptierTank();
        leastPrice();
        lowestMask();
        noSolution();
        halves();
        leastPulse();
        otherPulses();
        nothingIsLeft();
        targetRange();
        pulseOrder();
        roundedDown();
        noSelectionNoError();
        nothingIsRecorded();
        Checks.end();
    }

    private static void same(String call, ThrusterSelector body, int[] t, int mask, int thousandths) {
        Checks.due("select, " + call, body.select(t[0], t[1], t[2]), mask);
        Checks.due("price, " + call, body.price(t[0], t[1], t[2]), thousandths);
    }

    private static void none(String call, ThrusterSelector body, int... t) {
        same(call, body, t, Checks.NONE, Checks.NONE);
        for (int i = 0; i < body.thrusters(); i++) {
            Checks.due("pulse of " + i + ", " + call, body.pulse(t[0], t[1], t[2], i), Checks.NONE);
        }
    }

    private static void emptyTarget() {
        Checks.sentence("If all its parts are 0, it is empty (whatever is forbidden).");
        same("without thrusters", new ThrusterSelector(), new int[3], 0, 0);
        ThrusterSelector body = Checks.axes(1, 1);
        same("three usable thrusters", body, new int[3], 0, 0);
        body.addThruster(0, 0, 3, 1, 1, 1);
        body.addThruster(0, 0, 2, 1, 1, 1);
        body.forbid(24);
        body.setState(3, 2);
        body.setState(4, 2);
        Checks.due("each set is forbidden", body.isForbidden(0), 1);
        same("each set is forbidden", body, new int[3], 0, 0);
        for (int i = 0; i < 5; i++) {
            Checks.due("pulse of " + i, body.pulse(0, 0, 0, i), 0);
        }
        none("one part is 1", body, 1, 0, 0);
        body.refuel(0, 0);
        same("none is usable", body, new int[3], 0, 0);
        int[] ones = {-1, 1};
        for (int one : ones) {
            none("x is " + one, body, one, 0, 0);
            none("y is " + one, body, 0, one, 0);
            none("the turn is " + one, body, 0, 0, one);
        }
    }

    private static void threeUsable() {
        Checks.sentence("Otherwise all sets of three usable thrusters are considered");
        none("without thrusters", new ThrusterSelector(), 1, 0, 0);
        none("one thruster", Checks.rows(TENS[0]), 10, 0, 0);
        none("two thrusters", Checks.rows(TENS[0], TENS[1]), 10, 10, 0);
        same("three thrusters", Checks.rows(TENS), new int[] {10, 10, 0}, 3, 20000);
        for (int k = 0; k < 3; k++) {
            for (int state = 1; state < 3; state++) {
                ThrusterSelector body = Checks.rows(TENS);
                body.setState(k, state);
                none(k + " has state " + state, body, 10, 0, 0);
                none(k + " has state " + state, body, 10, 20, 10);
            }
        }
        // Each three of eight thrusters, the others having failed.
        for (int a = 0; a < 8; a++) {
            for (int b = a + 1; b < 8; b++) {
                for (int c = b + 1; c < 8; c++) {
                    same("only " + a + b + c, onlyThese(a, b, c), new int[] {10, 20, 10}, 1 << a | 1 << b | 1 << c, 30000);
                }
            }
        }
    }

    private static ThrusterSelector onlyThese(int a, int b, int c) {
        ThrusterSelector body = new ThrusterSelector();
        int next = 0;
        for (int k = 0; k < 8; k++) {
            boolean used = k == a || k == b || k == c;
            int[] row = TENS[used ? next++ : 0];
            body.addThruster(row[0], row[1], row[2], row[3], 0, 1);
            if (!used) {
                body.setState(k, 1);
            }
        }
        return body;
    }

    private static void determinants() {
        Checks.sentence("whose unit impulses have a determinant other than 0.");
        int[][] ones = {{0, 0, 0, 1}, {0, 0, 1, 1}, {1, 0, 1, 1}};
        ThrusterSelector plus = Checks.rows(ones);
        Checks.due("determinant", plus.determinant(0, 1, 2), 1);
        same("determinant 1", plus, new int[] {1, 3, 2}, 7, 4000);
        ThrusterSelector minus = Checks.rows(ones[1], ones[0], ones[2]);
        Checks.due("determinant", minus.determinant(0, 1, 2), -1);
        same("determinant -1", minus, new int[] {1, 3, 2}, 7, 4000);
        ThrusterSelector flat = Checks.rows(ones[0], ones[1], new int[] {0, 0, 2, 1});
        Checks.due("determinant", flat.determinant(0, 1, 2), 0);
        none("determinant 0, though two of them reach it", flat, 1, 1, 0);
        ThrusterSelector twice = Checks.rows(ones[0], ones[0], ones[0], ones[1]);
        none("determinant 0 for all sets", twice, 1, 0, 0);
        ThrusterSelector large = Checks.rows(new int[] {0, 10, 0, 10}, new int[] {10, 0, 1, 10}, new int[] {0, -10, 0, 10});
        Checks.due("determinant", large.determinant(0, 1, 2), 20000);
        same("the largest determinant", large, new int[] {400, 200, 2000}, 7, 600000);
        none("just too much for it", large, 400, 201, 2000);
    }

    /** The target for which the three thrusters of TENS have these W, in tenths of ticks. */
    private static int[] tenths(int a, int b, int c) {
        return new int[] {a, b + c, c};
    }

    private static void fromNothingToTwenty() {
        Checks.sentence("It is possible if each W is from 0 to 20");
        int[][] orders = {{0, 1, 2}, {0, 2, 1}, {1, 0, 2}, {1, 2, 0}, {2, 0, 1}, {2, 1, 0}};
        int[] edges = {-1, 0, 1, 199, 200, 201};
        for (int[] order : orders) {
            ThrusterSelector body = Checks.rows(TENS[order[0]], TENS[order[1]], TENS[order[2]]);
            for (int k = 0; k < 3; k++) {
                for (int edge : edges) {
                    int[] w = {50, 50, 50};
                    w[order[k]] = edge;
                    String call = "W of thruster " + k + " is " + edge + " tenths";
                    int[] target = tenths(w[0], w[1], w[2]);
                    if (edge < 0 || edge > 200) {
                        none(call, body, target);
                    } else {
                        same(call, body, target, edge == 0 ? 7 - (1 << k) : 7, 1000 * (100 + edge));
                    }
                }
            }
        }
        same("all are 20", Checks.rows(TENS), tenths(200, 200, 200), 7, 600000);
        none("one is above 20", Checks.rows(TENS), tenths(200, 200, 201));
        int[][] single = {{0, 0, 0, 10}, {0, 0, 1, 1}, {1, 0, 1, 1}};
        same("a tenth of a tick of the first", Checks.rows(single), new int[] {1, 0, 0}, 1, 1000);
        same("a tenth of a tick of the second", Checks.rows(single[1], single[0], single[2]), new int[] {1, 0, 0}, 2, 1000);
        same("a tenth of a tick of the third", Checks.rows(single[1], single[2], single[0]), new int[] {1, 0, 0}, 4, 1000);
        same("two are 0", Checks.rows(TENS), tenths(0, 0, 1), 4, 1000);
        none("all are below 0", Checks.rows(TENS), tenths(-1, -1, -1));
        // W of the first two are (10 * ty + tt) / 200 and (10 * ty - tt) / 200: there are no finer steps.
        ThrusterSelector fine = Checks.rows(new int[] {10, 0, 1, 10}, new int[] {-10, 0, 1, 10}, new int[] {0, 0, 0, 10});
        same("20 for both", fine, new int[] {0, 400, 0}, 3, 400000);
        none("a 200th above 20", fine, 0, 400, 1);
        same("20 for one, less for the other", fine, new int[] {0, 399, 10}, 3, 399000);
        none("a 200th above 20 for the one", fine, 0, 399, 11);
        none("a 200th above 20 for the other", fine, 0, 399, -11);
        same("one is 0", fine, new int[] {0, 1, 10}, 1, 1000);
        none("a 200th below 0", fine, 0, 1, 11);
        none("a 200th below 0, the other one", fine, 0, 1, -11);
    }

    private static void notForbidden() {
        Checks.sentence("and the set of those whose W is above 0 is not forbidden.");
        ThrusterSelector body = Checks.rows(TENS);
        body.forbid(7);
        none("all three, just above 0", body, tenths(1, 1, 1));
        same("the first is 0", body, tenths(0, 1, 1), 6, 2000);
        same("the second is 0", body, tenths(1, 0, 1), 5, 2000);
        same("the third is 0", body, tenths(1, 1, 0), 3, 2000);
        body.forbid(6);
        none("two of them", body, tenths(0, 1, 1));
        same("one of them", body, tenths(1, 1, 0), 3, 2000);
        Checks.due("a pulse of 0 is forbidden, too, as W is above 0", body.pulse(0, 2, 1, 1), Checks.NONE);
        body.addThruster(0, 0, 3, 1, 1, 1);
        body.setState(3, 2);
        body.forbid(9);
        none("one, with the running one", body, tenths(1, 0, 0));
        same("another one, with the running one", body, tenths(0, 1, 0), 2, 1000);
        body.refuel(1, 19);
        same("it does not run", body, tenths(1, 0, 0), 1, 1000);
    }

    private static void emptierTank() {
        Checks.sentence("where q is 2 if");
        int[][] fuels = {{1000, 1000, 1, 1}, {999, 1000, 2, 1}, {1000, 999, 1, 2}, {600, 100000, 2, 1}, {100000, 600, 1, 2}, {600, 600, 1, 1}};
        for (int[] row : fuels) {
            ThrusterSelector body = Checks.pairs();
            body.refuel(0, row[0]);
            body.refuel(1, row[1]);
            String call = "fuel " + row[0] + " and " + row[1];
            same(call + ", tank 0", body, new int[] {0, 4, 20}, 1, 4000 * row[2]);
            same(call + ", tank 1", body, new int[] {0, 4, -20}, 2, 4000 * row[3]);
            same(call + ", both tanks", body, new int[] {0, 40, 0}, 3, 20000 * (row[2] + row[3]));
        }
        ThrusterSelector none = Checks.pairs();
        none.refuel(1, 0);
        none.addThruster(-5, 0, 1, 4, 0, 1);
        same("the other tank is empty", none, new int[] {0, 4, -20}, 16, 4000);
    }

    private static void leastPrice() {
        Checks.sentence("The selection is a possible solution with the least price");
        // Prices 19.1 and 19 and 2 / 19: the higher mask is the cheaper one, by 1 / 190.
        ThrusterSelector near = Checks.rows(new int[] {10, 9, 2, 1}, new int[] {-10, -5, 1, 5}, new int[] {5, 10, 2, 4}, new int[] {1, -10, 0, 9});
        same("prices that differ by 1 / 190", near, new int[] {5, 14, -89}, 14, 19100);
        near.forbid(14);
        same("the dearer one", near, new int[] {5, 14, -89}, 11, 19105);
        // The second thruster costs as much for its impulse as the first, until the tanks differ.
        ThrusterSelector body = new ThrusterSelector();
        body.addThruster(0, 0, 0, 2, 0, 1);
        body.addThruster(0, 0, 0, 1, 1, 1);
        body.addThruster(0, 0, 1, 1, 0, 1);
        body.addThruster(1, 0, 1, 1, 0, 1);
        same("equal prices", body, new int[] {2, 0, 0}, 1, 2000);
        body.refuel(0, 99999);
        same("the first tank has less", body, new int[] {2, 0, 0}, 2, 2000);
        same("the second one would need 21 ticks", body, new int[] {21, 0, 0}, 1, 42000);
        body.refuel(1, 99999);
        same("equal again", body, new int[] {2, 0, 0}, 1, 2000);
    }

    private static void lowestMask() {
        Checks.sentence("of several one whose set of thrusters with W above 0 has the lowest mask");
        // With rounded fractions the one with the higher mask would seem the cheaper one.
        ThrusterSelector body = Checks.rows(new int[] {4, 1, 2, 1}, new int[] {-9, -6, 3, 6}, new int[] {-7, 0, 2, 10}, new int[] {8, 4, 3, 6});
        same("equal prices of 28", body, new int[] {-12, -16, 112}, 11, 28000);
        body.forbid(11);
        same("the other one", body, new int[] {-12, -16, 112}, 14, 28000);
        ThrusterSelector five = Checks.rows(new int[] {-4, 0, 3, 3}, new int[] {-6, 10, 2, 9}, new int[] {-3, 8, 1, 9}, new int[] {4, -2, 1, 2},
            new int[] {9, -3, 2, 9});
        same("equal prices of 47", five, new int[] {-37, 10, 160}, 22, 47000);
        five.forbid(22);
        same("the other one", five, new int[] {-37, 10, 160}, 26, 47000);
        ThrusterSelector alike = Checks.rows(new int[] {0, 0, 1, 1}, new int[] {1, 0, 1, 1}, new int[] {0, 0, 0, 3}, new int[] {0, 0, 0, 3});
        same("the lower of two alike", alike, new int[] {3, 0, 0}, 4, 3000);
        alike.setState(2, 1);
        same("the other of two alike", alike, new int[] {3, 0, 0}, 8, 3000);
        int[] along = {0, 0, 0, 1};
        int[] middle = {0, 0, 1, 1};
        int[] right = {1, 0, 1, 1};
        int[] left = {-1, 0, 1, 1};
        ThrusterSelector fewer = Checks.rows(right, along, left, middle);
        same("the lowest mask, not the fewest thrusters", fewer, new int[] {0, 2, 0}, 5, 2000);
        fewer.forbid(5);
        same("the higher one", fewer, new int[] {0, 2, 0}, 8, 2000);
        same("a single one first", Checks.rows(middle, along, left, right), new int[] {0, 2, 0}, 1, 2000);
        // The set of 0, 1 and 4 comes before that of 0, 2 and 3, the mask of which is lower.
        ThrusterSelector later = Checks.rows(along, right, new int[] {2, 0, 1, 1}, new int[] {-2, 0, 1, 1}, left);
        later.forbid(10);
        same("a lower mask in a later set", later, new int[] {0, 2, 0}, 12, 2000);
        later.forbid(12);
        same("the higher mask of the earlier set", later, new int[] {0, 2, 0}, 18, 2000);
    }

    private static void noSolution() {
        Checks.sentence("none if no solution is possible.");
        none("too far", Checks.rows(TENS), 201, 0, 0);
        none("the farthest", Checks.rows(TENS), 40000, 40000, 40000);
        none("the farthest, below 0", Checks.rows(TENS), -40000, -40000, -40000);
        none("the other way", Checks.rows(TENS), -1, 0, 0);
        ThrusterSelector body = Checks.rows(TENS);
        body.forbid(3);
        none("forbidden", body, tenths(10, 10, 0));
        body.allow(3);
        body.refuel(0, 599);
        none("without fuel", body, tenths(10, 10, 0));
        body.refuel(0, 600);
        same("with fuel of the emptier tank", body, tenths(10, 10, 0), 3, 40000);
    }

    private static void halves() {
        Checks.sentence("for each thruster with W above 0 let w be floor(W + 1 / 2)");
        ThrusterSelector tens = Checks.rows(TENS);
        for (int t = 0; t <= 200; t++) {
            int due = (t + 5) / 10;
            Checks.due("W of the first is " + t + " tenths", tens.pulse(t, 0, 0, 0), due);
            Checks.due("W of the second is " + t + " tenths", tens.pulse(0, t, 0, 1), due);
            Checks.due("W of the third is " + t + " tenths", tens.pulse(0, t, t, 2), due);
        }
        ThrusterSelector fine = Checks.rows(new int[] {0, 0, 0, 10}, new int[] {10, 0, 1, 10}, new int[] {-10, 0, 1, 10});
        int[][] rows = {{10, 99, 0}, {10, 100, 1}, {30, 299, 1}, {30, 300, 2}, {30, 301, 2}};
        for (int[] r : rows) {
            // W of the second is (ty * 10 + tt) / 200, that of the third (ty * 10 - tt) / 200.
            int tt = r[1] - r[0] * 10;
            Checks.due("W is " + r[1] + " / 200", fine.pulse(0, r[0], tt, 1), r[2]);
            Checks.due("W of the other is " + r[1] + " / 200", fine.pulse(0, r[0], -tt, 2), r[2]);
        }
        for (int f = 1; f <= 10; f++) {
            ThrusterSelector body = Checks.axes(f, 1);
            for (int t = 0; t <= 20 * f; t++) {
                Checks.due("W is " + t + " / " + f, body.pulse(t, 0, 0, 0), (2 * t + f) / (2 * f));
            }
        }
    }

    private static void leastPulse() {
        Checks.sentence("if this is less than its least pulse m, the pulse is m if 2 * W is at least m, and otherwise 0; otherwise it is w.");
        for (int m = 1; m <= 10; m++) {
            for (int f = 1; f <= 10; f += 3) {
                ThrusterSelector body = Checks.axes(f, m);
                for (int t = 1; t <= 20 * f; t++) {
                    int w = (2 * t + f) / (2 * f);
                    int due = w >= m ? w : 2 * t >= m * f ? m : 0;
                    Checks.due("m is " + m + ", W is " + t + " / " + f, body.pulse(t, 0, 0, 0), due);
                }
            }
        }
        Checks.due("m is 10, W is 49 tenths", Checks.axes(10, 10).pulse(49, 0, 0, 0), 0);
        Checks.due("m is 10, W is 5", Checks.axes(10, 10).pulse(50, 0, 0, 0), 10);
        Checks.due("m is 10, W is 94 tenths", Checks.axes(10, 10).pulse(94, 0, 0, 0), 10);
        Checks.due("m is 10, W is 95 tenths", Checks.axes(10, 10).pulse(95, 0, 0, 0), 10);
        Checks.due("m is 10, W is 105 tenths", Checks.axes(10, 10).pulse(105, 0, 0, 0), 11);
        Checks.due("m is 1, W is 4 tenths", Checks.axes(10, 1).pulse(4, 0, 0, 0), 0);
        Checks.due("m is 1, W is 5 tenths", Checks.axes(10, 1).pulse(5, 0, 0, 0), 1);
        Checks.due("m is 3, W is 14 tenths", Checks.axes(10, 3).pulse(14, 0, 0, 0), 0);
        Checks.due("m is 3, W is 15 tenths", Checks.axes(10, 3).pulse(15, 0, 0, 0), 3);
        Checks.due("W is 0", Checks.axes(10, 1).pulse(0, 5, 0, 0), 0);
    }

    private static void otherPulses() {
        Checks.sentence("All other thrusters have the");
        ThrusterSelector body = Checks.rows(TENS[0], TENS[1], TENS[2], TENS[0], TENS[1]);
        body.setState(3, 2);
        body.setState(4, 1);
        int[] due = {5, 6, 7, 0, 0};
        for (int i = 0; i < 5; i++) {
            Checks.due("pulse of " + i, body.pulse(50, 130, 70, i), due[i]);
            Checks.due("pulse of " + i + " by the empty selection", body.pulse(0, 0, 0, i), 0);
            Checks.due("pulse of " + i + " that only 0 has", body.pulse(50, 0, 0, i), i == 0 ? 5 : 0);
        }
        body.request(-150, 130, 70);
        Checks.due("cycle", body.cycle(), Checks.NONE);
        Checks.due("fired of the running one", body.fired(3), 0);
    }

    private static void nothingIsLeft() {
        Checks.sentence("for each thruster with W above 0");
        // A cheaper set of three is found behind a dearer one: the thrusters of that one alone have no pulse.
        ThrusterSelector body = Checks.rows(new int[] {0, 0, 0, 5}, new int[] {1, 0, 1, 2}, new int[] {-1, 0, 1, 2}, new int[] {0, 0, 1, 4});
        same("two of four", body, new int[] {0, 12, 0}, 6, 12000);
        body.refuel(1, 90000);
        body.addThruster(0, 0, 1, 3, 1, 1);
        same("the dearer tank", body, new int[] {0, 12, 0}, 6, 12000);
        body.refuel(0, 80000);
        same("the cheaper one", body, new int[] {0, 12, 0}, 16, 12000);
        int[] due = {0, 0, 0, 0, 4};
        for (int i = 0; i < 5; i++) {
            Checks.due("pulse of " + i, body.pulse(0, 12, 0, i), due[i]);
        }
        body.request(0, 12, 0);
        Checks.due("cycle", body.cycle(), 16);
        for (int i = 0; i < 5; i++) {
            Checks.due("fired(" + i + ")", body.fired(i), due[i]);
        }
        // One call after another on the same body, each as if it were the first.
        for (int turn = 0; turn < 2; turn++) {
            same("three", body, new int[] {5, 14, 2}, 19, 26000);
            same("none of them", body, new int[3], 0, 0);
            Checks.due("pulse of 4", body.pulse(0, 0, 0, 4), 0);
            none("too far", body, 0, 161, 0);
            same("none of them", body, new int[3], 0, 0);
            same("one", body, new int[] {0, 3, 0}, 16, 3000);
            Checks.due("pulse of 0", body.pulse(0, 3, 0, 0), 0);
            none("the other way", body, -1, 0, 0);
        }
    }

    private static void targetRange() {
        Checks.sentence("part 0, -40000 to 40000");
        for (int far : FAR) {
            for (int part = 0; part < 3; part++) {
                int x = part == 0 ? far : 0;
                int y = part == 1 ? far : 0;
                int turn = part == 2 ? far : 0;
                String call = "part " + part + " is " + far;
                Checks.refused("select, " + call, Checks::pairs, Checks.BAD_VALUE, b -> b.select(x, y, turn));
                Checks.refused("pulse, " + call, Checks::pairs, Checks.BAD_VALUE, b -> b.pulse(x, y, turn, 3));
                Checks.refused("price, " + call, Checks::pairs, Checks.BAD_VALUE, b -> b.price(x, y, turn));
                Checks.due("select without thrusters, " + call, new ThrusterSelector().select(x, y, turn), Checks.BAD_VALUE);
                Checks.due("price without thrusters, " + call, new ThrusterSelector().price(x, y, turn), Checks.BAD_VALUE);
            }
        }
        int[] far = {-40000, 40000};
        for (int size : far) {
            none("x is " + size, Checks.pairs(), size, 0, 0);
            none("y is " + size, Checks.pairs(), 0, size, 0);
            none("the turn is " + size, Checks.pairs(), 0, 0, size);
        }
    }

    private static void pulseOrder() {
        Checks.sentence("Returns the pulse; NONE if there is no selection; BAD_INDEX if there is no such thruster; BAD_VALUE if another argument is out of range.");
        int[] bad = {-1, 4, 8, Integer.MIN_VALUE, Integer.MAX_VALUE};
        for (int thruster : bad) {
            Checks.refused("thruster " + thruster, Checks::pairs, Checks.BAD_INDEX, b -> b.pulse(0, 40, 0, thruster));
            Checks.refused("thruster " + thruster + ", empty target", Checks::pairs, Checks.BAD_INDEX, b -> b.pulse(0, 0, 0, thruster));
            Checks.refused("thruster " + thruster + ", no selection", Checks::pairs, Checks.BAD_INDEX, b -> b.pulse(0, -40, 0, thruster));
            for (int far : FAR) {
                Checks.refused("thruster " + thruster + ", x " + far, Checks::pairs, Checks.BAD_INDEX, b -> b.pulse(far, 0, 0, thruster));
            }
        }
        Checks.due("without thrusters", new ThrusterSelector().pulse(0, 0, 0, 0), Checks.BAD_INDEX);
        Checks.due("the last one", Checks.pairs().pulse(0, -40, 0, 3), Checks.NONE);
        Checks.due("the first one", Checks.pairs().pulse(0, 40, 0, 0), 5);
    }

    private static void roundedDown() {
        Checks.sentence("Returns 1000 times the price, rounded down");
        ThrusterSelector thirds = Checks.rows(new int[] {3, 0, 1, 1}, new int[] {0, 0, 3, 1}, new int[] {0, 0, 0, 1});
        same("2 / 3", thirds, new int[] {0, 0, 1}, 3, 666);
        same("1 and 1 / 3", thirds, new int[] {0, 0, 2}, 3, 1333);
        same("2", thirds, new int[] {0, 0, 3}, 3, 2000);
        same("39 and 1 / 3", thirds, new int[] {0, 0, 59}, 3, 39333);
        // With rounded fractions it would seem to be just below 64.6.
        ThrusterSelector body = Checks.rows(new int[] {-4, 8, 0, 8}, new int[] {0, -3, 2, 2}, new int[] {-3, -2, 2, 7}, new int[] {2, 4, 3, 7});
        Checks.due("the cheapest one", body.price(18, -18, -323), 62000);
        body.forbid(body.select(18, -18, -323));
        Checks.due("64.6", body.price(18, -18, -323), 64600);
        ThrusterSelector dear = Checks.rows(TENS);
        dear.refuel(0, 99999);
        same("the dearest", dear, new int[] {200, 400, 200}, 7, 1200000);
        same("the cheapest", Checks.rows(TENS), new int[] {1, 0, 0}, 1, 1000);
    }

    private static void noSelectionNoError() {
        Checks.sentence("NONE is returned only if no error applies.");
        Checks.due("select", Checks.pairs().select(40000, 0, 40001), Checks.BAD_VALUE);
        Checks.due("price", Checks.pairs().price(-40001, 0, 40000), Checks.BAD_VALUE);
        Checks.due("pulse", Checks.pairs().pulse(-40000, 0, 40001, 0), Checks.BAD_VALUE);
        Checks.due("pulse of none", Checks.pairs().pulse(-40000, 0, 40000, 4), Checks.BAD_INDEX);
    }

    private static void nothingIsRecorded() {
        Checks.sentence("The methods that are said to be recorded record the whole state");
        ThrusterSelector body = new ThrusterSelector();
        body.select(1, 0, 0);
        body.price(1, 0, 0);
        body.isForbidden(3);
        Checks.due("without thrusters", body.undo(), Checks.BAD_STATE);
        body = Checks.pairs();
        body.select(0, 40, 0);
        body.pulse(0, 40, 0, 0);
        body.price(0, 40, 0);
        Checks.sameStates("behind looks", body, Checks.pairs());
    }
}
