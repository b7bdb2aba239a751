/** Promises 2 to 6. */
final class LandsAndGatesTest {
    private LandsAndGatesTest() {
    }

    static void run() {
        promise2Land();
        promise2LandRefuses();
        promise3Trade();
        promise3TradeRefuses();
        promise4Gate();
        promise4GateRefuses();
        promise5Odds();
        promise6Relieve();
    }

    private static void promise2Land() {
        Lullabygate x = new Lullabygate();
        Check.same("RATE at first", x.land(0, 50, 99), 10);
        Check.same("RATE told before", x.land(0, 0, 0), 50);
        Check.same("the last LAND", x.land(5, 1, 2), 10);
        Check.same("RATE", x.ofLand(0, 0), 0);
        Check.same("ALLOWANCE", x.ofLand(0, 1), 0);
        Check.same("RATE of the last one", x.ofLand(5, 0), 1);
        Check.same("ALLOWANCE of the last one", x.ofLand(5, 1), 2);
        Check.same("another LAND's RATE", x.ofLand(1, 0), 10);
        Check.same("another LAND's ALLOWANCE", x.ofLand(1, 1), 20);
    }

    private static void promise2LandRefuses() {
        Lullabygate x = new Lullabygate();
        for (int land : new int[] {-1, 6, Scene.BIG, Scene.SMALL}) {
            Check.noSuch(x, "land " + land, () -> x.land(land, 1, 1));
            Check.noSuch(x, "land " + land + " ahead of RATE", () -> x.land(land, 51, -1));
        }
        for (int rate : new int[] {-1, 51, Scene.BIG, Scene.SMALL}) {
            Check.badArgument(x, "RATE " + rate, () -> x.land(0, rate, 1));
        }
        for (int allowance : new int[] {-1, 100, Scene.BIG, Scene.SMALL}) {
            Check.badArgument(x, "ALLOWANCE " + allowance, () -> x.land(0, 1, allowance));
        }
    }

    private static void promise3Trade() {
        Lullabygate x = new Lullabygate();
        Check.same("trade", x.trade(0, 5, 2), 7);
        Check.same("the giver's QUOTA", x.ofLand(0, 2), 3);
        Check.same("the taker's QUOTA", x.ofLand(5, 2), 7);
        Check.same("trade of nothing", x.trade(0, 1, 0), 5);
        Check.same("all of it", x.trade(0, 1, 3), 8);
        Check.same("nothing is left", x.ofLand(0, 2), 0);
        Check.same("nothing of nothing", x.trade(0, 1, 0), 8);
        for (int from = 2; from <= 5; from++) {
            x.trade(from, 1, x.ofLand(from, 2));
        }
        Check.same("all QUOTAS", x.ofLand(1, 2), 30);
        Check.same("sound", x.isSound(), true);
    }

    private static void promise3TradeRefuses() {
        Lullabygate x = new Lullabygate();
        for (int land : new int[] {-1, 6, Scene.BIG, Scene.SMALL}) {
            Check.noSuch(x, "trade from " + land, () -> x.trade(land, 1, 1));
            Check.noSuch(x, "trade to " + land, () -> x.trade(1, land, 1));
            Check.noSuch(x, "both " + land, () -> x.trade(land, land, -1));
        }
        Check.badArgument(x, "the same LAND", () -> x.trade(2, 2, 1));
        Check.badArgument(x, "the same LAND, too much", () -> x.trade(2, 2, 6));
        Check.badArgument(x, "below 0", () -> x.trade(0, 1, -1));
        Check.badArgument(x, "far below 0", () -> x.trade(0, 1, Scene.SMALL));
        Check.badState(x, "more than it has", () -> x.trade(0, 1, 6));
        Check.badState(x, "far more than it has", () -> x.trade(0, 1, Scene.BIG));
    }

    private static void promise4Gate() {
        Lullabygate x = new Lullabygate();
        Check.same("the first GATE", x.gate(0, 5, 0, 1), 0);
        Check.same("the next one", x.gate(5, 0, 23, 24), 1);
        int[] first = {0, 5, 1, 5, 0, 0, 0, Scene.NONE, 0, 0};
        for (int what = 0; what <= 9; what++) {
            Check.same("ofGate(0, " + what + ")", x.ofGate(0, what), first[what]);
        }
        Check.same("one", x.ofGate(1, 0), 5);
        Check.same("other", x.ofGate(1, 1), 0);
        for (int number = 2; number < 8; number++) {
            Check.same("GATE " + number, x.gate(1, 2, 3, 4), number);
        }
        Check.badState(x, "a ninth GATE", () -> x.gate(1, 2, 3, 4));
        Check.badArgument(x, "a ninth GATE of no hours", () -> x.gate(1, 2, 3, 0));
        Check.noSuch(x, "a ninth GATE nowhere", () -> x.gate(1, 6, 3, 4));
        Check.same("GATES", x.night(2), 8);
    }

    private static void promise4GateRefuses() {
        Lullabygate x = new Lullabygate();
        for (int land : new int[] {-1, 6, Scene.BIG, Scene.SMALL}) {
            Check.noSuch(x, "gate at " + land, () -> x.gate(land, 1, 0, 1));
            Check.noSuch(x, "gate to " + land, () -> x.gate(1, land, 0, 1));
            Check.noSuch(x, "gate ahead of others " + land, () -> x.gate(land, land, -1, 0));
        }
        Check.badArgument(x, "the same LAND", () -> x.gate(3, 3, 0, 1));
        for (int from : new int[] {-1, 24, Scene.BIG, Scene.SMALL}) {
            Check.badArgument(x, "from " + from, () -> x.gate(0, 1, from, 1));
        }
        for (int hours : new int[] {0, -1, 25, Scene.BIG, Scene.SMALL}) {
            Check.badArgument(x, "hours " + hours, () -> x.gate(0, 1, 0, hours));
        }
        Check.same("no GATE", x.night(2), 0);
    }

    private static void promise5Odds() {
        Lullabygate x = new Lullabygate();
        Check.noSuch(x, "odds without a GATE", () -> x.odds(0, 11));
        x.gate(0, 1, 0, 24);
        x.gate(0, 1, 0, 24);
        Check.same("ODDS at first", x.odds(0, 10), 5);
        Check.same("ODDS before", x.odds(0, 0), 10);
        Check.same("ODDS", x.ofGate(0, 3), 0);
        Check.same("ODDS of another one", x.ofGate(1, 3), 5);
        for (int odds : new int[] {-1, 11, Scene.BIG, Scene.SMALL}) {
            Check.badArgument(x, "odds " + odds, () -> x.odds(1, odds));
            Check.noSuch(x, "no GATE, odds " + odds, () -> x.odds(2, odds));
        }
        Check.noSuch(x, "odds of -1", () -> x.odds(-1, 5));
    }

    private static void promise6Relieve() {
        Lullabygate x = new Lullabygate();
        Check.noSuch(x, "relieve without a GATE", () -> x.relieve(0));
        x.gate(0, 1, 0, 24);
        x.gate(0, 1, 0, 24);
        Check.same("WATCH at first", x.relieve(0), 0);
        x.pass(7);
        Check.same("WATCH before", x.relieve(0), 7);
        Check.same("WATCH then", x.ofGate(0, 4), 0);
        Check.same("WATCH of another one", x.ofGate(1, 4), 7);
        x.pass(1);
        Check.same("WATCH goes on", x.relieve(0), 1);
        for (int gate : new int[] {-1, 2, Scene.BIG, Scene.SMALL}) {
            Check.noSuch(x, "relieve " + gate, () -> x.relieve(gate));
        }
    }
}
