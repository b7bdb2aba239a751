/** Edges of WAYS and PLANS in the terms 6, and of the promises 24 and 25. */
final class WayEdges {
    private static final Class<?> NO_SUCH = IndexOutOfBoundsException.class;

    private WayEdges() {
    }

    static void run() {
        Edges.of(0, "A WAY from a LAND to another one: by GATES, one HOUR each", WayEdges::oneHourEach);
        Edges.of(0, "each begun at an HOUR at which that GATE is OPEN", WayEdges::begunWhileOpen);
        Edges.of(0, "one can wait.", WayEdges::waitsFrom0To23);
        Edges.of(0, "ARRIVAL is how many HOURS from now on it takes at least", WayEdges::atLeast);
        Edges.of(0, "NONE without a way within 72 HOURS.", WayEdges::within72);
        Edges.of(0, "HIDDEN WORTH of a GATE: that of all HIDDEN PARTS of those who stand in its QUEUE.",
            WayEdges::hiddenWorthFrom0On);
        Edges.of(0, "The CATCH of ODDS for a GATE is HIDDEN WORTH * ODDS / 10.", WayEdges::catchesFromOdds0To10);
        Edges.of(0, "A PLAN gives each GATE ODDS", WayEdges::oddsOfAPlanFrom0To10);
        Edges.of(0, "has the least sum of ODDS by which all CATCHES together are the PROMISE or more.",
            WayEdges::thePromiseOrMore);
        Edges.of(24, "Returns ARRIVAL (0 for the same one).", WayEdges::theSameOne);
        Edges.of(24, "Throws IndexOutOfBoundsException if from or to is not 0 to 5", WayEdges::wayOutside);
        Edges.of(25, "Returns the sum of ODDS of the BEST PLAN, or ODDS of that GATE in it",
            WayEdges::sumOrOddsOfAGate);
        Edges.of(25, "(of several such PLANS that with the least ODDS at the GATE 0, then 1, and so on)",
            WayEdges::leastOddsAtTheFirstGates);
        Edges.of(25, "NONE, if there is no PLAN.", WayEdges::noPlan);
        Edges.of(25, "Throws IndexOutOfBoundsException if gate is neither NONE nor a GATE that there is",
            WayEdges::planForNoGate);
        Edges.of(25, "Throws IllegalArgumentException if promise is not 0 to 2000", WayEdges::promisesFrom0To2000);
    }

    private static void oneHourEach() {
        Lullabygate x = new Lullabygate();
        for (int k = 0; k < 5; k++) {
            x.gate(k, k + 1, 0, 24);
        }
        for (int from = 0; from <= 5; from++) {
            for (int to = 0; to <= 5; to++) {
                Check.same("from " + from + " to " + to, x.way(from, to), Math.abs(from - to));
            }
        }
    }

    private static void begunWhileOpen() {
        Lullabygate x = new Lullabygate();
        x.gate(0, 1, 10, 2);
        x.gate(1, 2, 11, 1);
        Scene.toHour(x, 9);
        Check.same("an HOUR ahead", x.way(0, 1), 2);
        Check.same("an HOUR ahead, on to the next one", x.way(0, 2), 3);
        x.pass(1);
        Check.same("in the first HOUR", x.way(0, 1), 1);
        Check.same("in the first HOUR, on to the next one in its last", x.way(0, 2), 2);
        x.pass(1);
        Check.same("in the last HOUR", x.way(0, 1), 1);
        Check.same("in the last HOUR, too late for the next one", x.way(0, 2), 25);
        x.pass(1);
        Check.same("the HOUR behind", x.way(0, 1), 23);
    }

    private static void waitsFrom0To23() {
        for (int from = 0; from < 24; from++) {
            Lullabygate x = new Lullabygate();
            x.gate(0, 1, from, 1);
            Check.same("waits " + from, x.way(0, 1), from + 1);
            Check.same("back too", x.way(1, 0), from + 1);
        }
    }

    private static void atLeast() {
        Lullabygate x = new Lullabygate();
        x.gate(0, 1, 5, 1);
        x.gate(0, 2, 0, 24);
        x.gate(2, 3, 0, 24);
        x.gate(3, 1, 0, 24);
        Check.same("three GATES are faster than to wait", x.way(0, 1), 3);
        x.pass(3);
        Check.same("as fast", x.way(0, 1), 3);
        x.pass(1);
        Check.same("to wait is faster", x.way(0, 1), 2);
        x.gate(1, 0, 0, 24);
        Check.same("a second GATE between them", x.way(0, 1), 1);
    }

    private static void within72() {
        for (int first = 21; first <= 23; first++) {
            Lullabygate x = new Lullabygate();
            x.gate(0, 1, 23, 1);
            x.gate(1, 2, 23, 1);
            x.gate(2, 3, first, 1);
            x.gate(3, 4, 0, 24);
            Check.same("the third GATE at " + first, x.way(0, 3), first + 49);
            Check.same("one GATE more", x.way(0, 4), first == 23 ? -1 : first + 50);
        }
        Lullabygate x = new Lullabygate();
        x.gate(0, 1, 0, 24);
        Check.same("no GATE there at all", x.way(0, 2), -1);
        Check.same("no GATE here at all", x.way(2, 0), -1);
        x.gate(2, 3, 0, 1);
        Scene.toNight(x, 99);
        x.pass(23);
        Check.same("no other bound than 72 HOURS, on the last NIGHT too", x.way(2, 3), 2);
    }

    private static void hiddenWorthFrom0On() {
        Lullabygate x = Scene.openGate();
        x.gate(0, 1, 0, 24);
        Check.same("nobody", x.ofGate(0, 8), 0);
        x.sleeper(0, false, 9);
        x.join(0, 0, 0);
        Check.same("an empty HEAD", x.ofGate(0, 8), 0);
        x.leave(0);
        for (int k = 0; k < 3; k++) {
            x.part(0, 0, 10 + k, 0);
        }
        Check.same("one AT REST", x.ofGate(0, 8), 0);
        x.join(0, 0, 2);
        Check.same("what it does not DECLARE", x.ofGate(0, 8), 22);
        Check.same("at another GATE", x.ofGate(1, 8), 0);
        x.sleeper(0, true, 9);
        x.part(1, 0, 99, 9);
        x.join(1, 0, 0);
        Check.same("of both", x.ofGate(0, 8), 121);
        x.yawn(0);
        Check.same("of who is left", x.ofGate(0, 8), 22);
    }

    private static void catchesFromOdds0To10() {
        Lullabygate x = Scene.hiders(99);
        for (int odds = 0; odds <= 10; odds++) {
            Check.same("the CATCH of " + odds, x.plan(99 * odds / 10, 0), odds);
            Check.same("1 more", x.plan(99 * odds / 10 + 1, 0), odds == 10 ? -1 : odds + 1);
        }
    }

    private static void oddsOfAPlanFrom0To10() {
        Lullabygate x = Scene.hiders(10, 10);
        x.odds(0, 10);
        x.odds(1, 0);
        Check.same("0 at both", x.plan(0, -1), 0);
        Check.same("10 at both, whatever they have", x.plan(20, -1), 20);
        Check.same("10 at 0", x.plan(20, 0), 10);
        Check.same("10 at 1", x.plan(20, 1), 10);
        Check.same("no ODDS of 11", x.plan(21, -1), -1);
        Check.same("ODDS are not told by it", x.ofGate(1, 3), 0);
    }

    private static void thePromiseOrMore() {
        Lullabygate x = Scene.hiders(50, 7);
        Check.same("just that", x.plan(5, -1), 1);
        Check.same("more than that", x.plan(4, -1), 1);
        Check.same("1 more than that", x.plan(6, -1), 2);
        Check.same("all of one", x.plan(50, -1), 10);
        Check.same("1 more than that, with the least of the other one", x.plan(51, -1), 12);
        Check.same("all of both", x.plan(57, -1), 20);
        Check.same("1 more than that", x.plan(58, -1), -1);
    }

    private static void theSameOne() {
        Lullabygate x = new Lullabygate();
        for (int land = 0; land <= 5; land++) {
            Check.same("without GATES", x.way(land, land), 0);
        }
        x.gate(0, 1, 12, 1);
        Check.same("with one that is not OPEN", x.way(0, 0), 0);
        Check.same("another one", x.way(0, 1), 13);
    }

    private static void wayOutside() {
        Lullabygate x = Scene.openGate();
        Check.outside(x, "from", 0, 5, NO_SUCH, land -> x.way(land, 0));
        Check.outside(x, "to", 0, 5, NO_SUCH, land -> x.way(0, land));
        Check.outside(x, "both", 0, 5, NO_SUCH, land -> x.way(land, land));
        Check.same("from the last one to the first one", x.way(5, 0), -1);
    }

    private static void sumOrOddsOfAGate() {
        Lullabygate x = Scene.hiders(30, 0, 60, 90, 10, 20, 40, 50);
        Check.same("the sum", x.plan(183, -1), 27);
        int sum = 0;
        for (int gate = 0; gate < 8; gate++) {
            sum += x.plan(183, gate);
        }
        Check.same("the ODDS of all GATES together", sum, 27);
        Check.same("nothing where nothing is HIDDEN", x.plan(300, 1), 0);
        Check.same("all where all is needed", x.plan(300, 4), 10);
        Check.same("nothing for a PROMISE of 0", x.plan(0, 7), 0);
    }

    private static void leastOddsAtTheFirstGates() {
        Lullabygate x = Scene.hiders(50, 50, 50, 50, 50, 50, 50, 50);
        int[] due = {0, 0, 0, 0, 0, 5, 10, 10};
        for (int gate = 0; gate < 8; gate++) {
            Check.same("at " + gate, x.plan(125, gate), due[gate]);
        }
        Lullabygate y = Scene.hiders(10, 20, 10);
        Check.same("the sum", y.plan(21, -1), 11);
        Check.same("at 0", y.plan(21, 0), 0);
        Check.same("at 1", y.plan(21, 1), 10);
        Check.same("at 2", y.plan(21, 2), 1);
    }

    private static void noPlan() {
        Lullabygate x = new Lullabygate();
        Check.same("without GATES", x.plan(1, -1), -1);
        Check.same("a PROMISE of 0 without GATES", x.plan(0, -1), 0);
        Lullabygate y = Scene.hiders(0);
        Check.same("nothing HIDDEN", y.plan(1, -1), -1);
        Check.same("nothing HIDDEN, at the GATE", y.plan(1, 0), -1);
        Check.same("a PROMISE of 0, at the GATE", y.plan(0, 0), 0);
        Lullabygate z = Scene.hiders(99, 99);
        Check.same("198 of 198", z.plan(198, -1), 20);
        Check.same("199 of 198", z.plan(199, -1), -1);
        Check.same("199 of 198, at the GATE", z.plan(199, 1), -1);
    }

    private static void planForNoGate() {
        Lullabygate x = new Lullabygate();
        Check.outside(x, "GATE of none", -1, -1, NO_SUCH, gate -> x.plan(0, gate));
        x.gate(0, 1, 0, 24);
        Check.outside(x, "GATE of one", -1, 0, NO_SUCH, gate -> x.plan(0, gate));
        Lullabygate full = Scene.full();
        Check.outside(full, "GATE of all", -1, 7, NO_SUCH, gate -> full.plan(0, gate));
        Check.same("the last GATE", full.plan(0, 7), 0);
    }

    private static void promisesFrom0To2000() {
        Lullabygate x = Scene.openGate();
        x.sleeper(0, false, 9);
        for (int k = 0; k < 24; k++) {
            x.part(0, 0, 99, 0);
        }
        x.join(0, 0, 0);
        Check.same("the least", x.plan(0, -1), 0);
        Check.same("the greatest", x.plan(2000, -1), 9);
        Check.outside(x, "PROMISE", 0, 2000, IllegalArgumentException.class, promise -> x.plan(promise, -1));
        Check.outside(x, "PROMISE at a GATE", 0, 2000, IllegalArgumentException.class, promise -> x.plan(promise, 0));
    }
}
