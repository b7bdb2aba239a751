/** Promise 25. */
final class PlansTest {
    private PlansTest() {
    }

    static void run() {
        promise25OneGate();
        promise25SeveralGates();
        promise25AgainstAllPlans();
        promise25MostOfAll();
        promise25Refuses();
    }

    private static void promise25OneGate() {
        Lullabygate x = Scene.hiders(25);
        int[][] cases = {{0, 0}, {1, 1}, {2, 1}, {3, 2}, {5, 2}, {6, 3}, {7, 3}, {8, 4}, {22, 9}, {23, 10}, {25, 10}};
        for (int[] c : cases) {
            Check.same("sum for " + c[0], x.plan(c[0], Scene.NONE), c[1]);
            Check.same("ODDS for " + c[0], x.plan(c[0], 0), c[1]);
        }
        Check.same("too much", x.plan(26, Scene.NONE), Scene.NONE);
        Check.same("too much for the GATE", x.plan(26, 0), Scene.NONE);
        x.odds(0, 0);
        Check.same("ODDS that it has do not count", x.plan(5, 0), 2);
        Lullabygate least = Scene.hiders(1);
        Check.same("the least HIDDEN WORTH", least.plan(1, Scene.NONE), 10);
        Check.same("nothing HIDDEN", Scene.hiders(0).plan(1, Scene.NONE), Scene.NONE);
    }

    private static void promise25SeveralGates() {
        Lullabygate same = Scene.hiders(50, 50, 50);
        Check.same("the sum", same.plan(60, Scene.NONE), 12);
        Check.same("the least at 0", same.plan(60, 0), 0);
        Check.same("then at 1", same.plan(60, 1), 2);
        Check.same("the rest at 2", same.plan(60, 2), 10);
        Lullabygate floors = Scene.hiders(19, 15, 0, 9);
        Check.same("what is divided is rounded down", floors.plan(4, Scene.NONE), 3);
        Check.same("all there", floors.plan(43, Scene.NONE), 30);
        Check.same("nothing is hidden at 2", floors.plan(43, 2), 0);
        Check.same("too much", floors.plan(44, Scene.NONE), Scene.NONE);
        Check.same("a PROMISE of 0", floors.plan(0, 3), 0);
        Lullabygate declared = Scene.hiders(40);
        declared.sleeper(0, false, 9);
        declared.part(1, 0, 99, 0);
        declared.join(1, 0, 2);
        Check.same("DECLARED PARTS are not CAUGHT", declared.plan(41, Scene.NONE), Scene.NONE);
    }

    /** All PLANS of three GATES, one after the other. */
    private static void promise25AgainstAllPlans() {
        int[][] worths = {{7, 31, 12}, {99, 3, 98}, {11, 11, 11}, {0, 9, 29}, {33, 66, 99}, {19, 0, 19}};
        for (int[] w : worths) {
            Lullabygate x = Scene.hiders(w);
            for (int promise = 0; promise <= w[0] + w[1] + w[2] + 1; promise += 3) {
                int[] best = bestOfAll(w, promise);
                String what = w[0] + ", " + w[1] + ", " + w[2] + " for " + promise;
                for (int gate = Scene.NONE; gate < 3; gate++) {
                    Check.same("plan of " + what + " at " + gate, x.plan(promise, gate), best[gate + 1]);
                }
            }
        }
    }

    private static int[] bestOfAll(int[] w, int promise) {
        int[] best = {Scene.NONE, Scene.NONE, Scene.NONE, Scene.NONE};
        for (int a = 0; a <= 10; a++) {
            for (int b = 0; b <= 10; b++) {
                for (int c = 0; c <= 10; c++) {
                    int caught = w[0] * a / 10 + w[1] * b / 10 + w[2] * c / 10;
                    if (caught >= promise && (best[0] == Scene.NONE || a + b + c < best[0])) {
                        best = new int[] {a + b + c, a, b, c};
                    }
                }
            }
        }
        return best;
    }

    private static void promise25MostOfAll() {
        Lullabygate x = new Lullabygate();
        for (int k = 0; k < 8; k++) {
            x.gate(0, 1, 0, 24);
            x.sleeper(0, false, 9);
            for (int j = 0; j < 3; j++) {
                x.part(k, 0, 99, 0);
            }
            x.join(k, k, 0);
        }
        Check.same("the greatest PROMISE", x.plan(2000, Scene.NONE), 68);
        Check.same("at the first GATE", x.plan(2000, 0), 0);
        Check.same("at the last GATE", x.plan(2000, 7), 10);
        Lullabygate y = Scene.hiders(9, 9, 9, 9, 9, 9, 9, 9);
        Check.same("all ODDS", y.plan(72, Scene.NONE), 80);
        Check.same("all ODDS of the first GATE", y.plan(72, 0), 10);
        Check.same("more than all ODDS", y.plan(73, Scene.NONE), Scene.NONE);
    }

    private static void promise25Refuses() {
        Lullabygate x = new Lullabygate();
        Check.same("without GATES", x.plan(0, Scene.NONE), 0);
        Check.same("without GATES, a PROMISE of 1", x.plan(1, Scene.NONE), Scene.NONE);
        Check.same("without GATES, the greatest PROMISE", x.plan(2000, Scene.NONE), Scene.NONE);
        Check.noSuch(x, "no GATE", () -> x.plan(0, 0));
        x.gate(0, 1, 0, 24);
        for (int gate : new int[] {-2, 1, Scene.BIG, Scene.SMALL}) {
            Check.noSuch(x, "plan for GATE " + gate, () -> x.plan(0, gate));
            Check.noSuch(x, "plan for GATE, wrong PROMISE " + gate, () -> x.plan(-1, gate));
        }
        for (int promise : new int[] {-1, 2001, Scene.BIG, Scene.SMALL}) {
            Check.badArgument(x, "PROMISE " + promise, () -> x.plan(promise, Scene.NONE));
            Check.badArgument(x, "PROMISE at 0 " + promise, () -> x.plan(promise, 0));
        }
    }
}
