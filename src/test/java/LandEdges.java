/** Edges of the terms 1, and of the promises 1 to 6. */
final class LandEdges {
    private static final Class<?> NO_SUCH = IndexOutOfBoundsException.class;
    private static final Class<?> BAD = IllegalArgumentException.class;

    private LandEdges() {
    }

    static void run() {
        Edges.of(0, "NIGHT is 0 at first, 99 at most", LandEdges::nightsFrom0To99);
        Edges.of(0, "HOUR is 0 to 23 (0 at first), one of the NIGHT", LandEdges::hoursFrom0To23);
        Edges.of(0, "LANDS 0 to 5", LandEdges::landsFrom0To5);
        Edges.of(0, "a RATE (0 to 50 hundredths; 10 at first)", LandEdges::ratesFrom0To50);
        Edges.of(0, "an ALLOWANCE (0 to 99; 20 at first)", LandEdges::allowancesFrom0To99);
        Edges.of(0, "a QUOTA of nightmares (0 to 30; 5 at first)", LandEdges::quotasFrom0To30);
        Edges.of(0, "GATES: at most 8, numbered from 0", LandEdges::atMost8Gates);
        Edges.of(0, "each between two different LANDS", LandEdges::gatesOfOneLand);
        Edges.of(0, "(it can be crossed both ways)", LandEdges::crossedBothWays);
        Edges.of(0, "OPEN from one hour (0 to 23) on for 1 to 24 hours", LandEdges::openFor1To24Hours);
        Edges.of(0, "(behind 23 again 0)", LandEdges::openBehind23);
        Edges.of(0, "with ODDS (0 to 10; 5 at first)", LandEdges::oddsFrom0To10);
        Edges.of(0, "how many HOURS the GUARD has been there (0 at first)", LandEdges::watchAtFirst);
        Edges.of(0, "A GUARD with a WATCH of 5 or more DOZES.", LandEdges::dozesFrom5On);
        Edges.of(0, "To RELIEVE a GATE makes WATCH 0.", LandEdges::relievedFromAnyWatch);
        Edges.of(1, "Creates a night without GATES and SLEEPERS.", LandEdges::nothingAtFirst);
        runPromises();
    }

    private static void runPromises() {
        Edges.of(2, "Returns RATE before.", LandEdges::rateBefore);
        Edges.of(2, "Throws IndexOutOfBoundsException if land is not 0 to 5", LandEdges::landOutside);
        Edges.of(2, "Throws IllegalArgumentException if rate is not 0 to 50, or allowance not 0 to 99",
            LandEdges::rulesOutside);
        Edges.of(3, "Returns QUOTA of the other one then.", LandEdges::quotaThen);
        Edges.of(3, "Throws IndexOutOfBoundsException if from or to is not 0 to 5", LandEdges::tradeOutside);
        Edges.of(3, "Throws IllegalArgumentException if both are the same, or many is below 0",
            LandEdges::tradeWithItselfOrBelow0);
        Edges.of(3, "Throws IllegalStateException if the first one has less", LandEdges::tradeOfMoreThanItHas);
        Edges.of(3, "or the other one would have more than 30", LandEdges::tradeUpTo30);
        Edges.of(4, "Returns its number.", LandEdges::atMost8Gates);
        Edges.of(4, "Throws IndexOutOfBoundsException if one or other is not 0 to 5", LandEdges::gateOutside);
        Edges.of(4, "if both are the same", LandEdges::gatesOfOneLand);
        Edges.of(4, "Throws IllegalArgumentException if both are the same, from is not 0 to 23, or hours not 1 to 24",
            LandEdges::hoursOutside);
        Edges.of(4, "Throws IllegalStateException if there are 8", LandEdges::theNinthGate);
        Edges.of(5, "Returns these before.", LandEdges::oddsFrom0To10);
        Edges.of(5, "Throws IndexOutOfBoundsException if there is no such GATE", LandEdges::oddsWithoutGate);
        Edges.of(5, "Throws IllegalArgumentException if odds is not 0 to 10", LandEdges::oddsOutside);
        Edges.of(6, "Returns WATCH before.", LandEdges::relievedFromAnyWatch);
        Edges.of(6, "Throws IndexOutOfBoundsException if there is no such GATE", LandEdges::relieveWithoutGate);
    }

    private static void nightsFrom0To99() {
        Lullabygate x = new Lullabygate();
        Check.same("at first", x.night(0), 0);
        Scene.toNight(x, 99);
        Check.same("at most", x.night(0), 99);
        x.pass(23);
        Check.badState(x, "NIGHT 100", () -> x.pass(1));
        Check.same("at most, still", x.night(0), 99);
    }

    private static void hoursFrom0To23() {
        Lullabygate x = new Lullabygate();
        Check.same("at first", x.night(1), 0);
        for (int hour = 1; hour <= 23; hour++) {
            Check.same("HOUR " + hour, x.pass(1), hour);
        }
        Check.same("of the NIGHT 0", x.night(0), 0);
        Check.same("behind 23", x.pass(1), 0);
        Check.same("of the NIGHT 1", x.night(0), 1);
    }

    private static void landsFrom0To5() {
        Lullabygate x = new Lullabygate();
        for (int land = 0; land <= 5; land++) {
            Check.same("LAND " + land, x.land(land, land, land), 10);
            Check.same("a SLEEPER in it", x.sleeper(land, false, 1), land);
        }
        Check.outside(x, "LAND", 0, 5, NO_SUCH, land -> x.ofLand(land, 0));
    }

    private static void ratesFrom0To50() {
        Lullabygate x = new Lullabygate();
        for (int land = 0; land <= 5; land++) {
            Check.same("at first", x.ofLand(land, 0), 10);
        }
        x.land(2, 0, 20);
        Check.same("the least", x.ofLand(2, 0), 0);
        x.land(2, 50, 20);
        Check.same("the most", x.ofLand(2, 0), 50);
        Check.outside(x, "RATE", 0, 50, BAD, rate -> x.land(2, rate, 20));
    }

    private static void allowancesFrom0To99() {
        Lullabygate x = new Lullabygate();
        for (int land = 0; land <= 5; land++) {
            Check.same("at first", x.ofLand(land, 1), 20);
        }
        x.land(2, 10, 0);
        Check.same("the least", x.ofLand(2, 1), 0);
        x.land(2, 10, 99);
        Check.same("the most", x.ofLand(2, 1), 99);
        Check.outside(x, "ALLOWANCE", 0, 99, BAD, allowance -> x.land(2, 10, allowance));
    }

    private static void quotasFrom0To30() {
        Lullabygate x = new Lullabygate();
        for (int land = 0; land <= 5; land++) {
            Check.same("at first", x.ofLand(land, 2), 5);
        }
        for (int land = 0; land <= 4; land++) {
            x.trade(land, 5, 5);
            Check.same("the least", x.ofLand(land, 2), 0);
        }
        Check.same("the most", x.ofLand(5, 2), 30);
        Check.badState(x, "below the least", () -> x.trade(0, 1, 1));
    }

    private static void atMost8Gates() {
        Lullabygate x = new Lullabygate();
        for (int number = 0; number < 8; number++) {
            Check.same("the number", x.gate(0, 1, 0, 24), number);
            Check.same("how many", x.night(2), number + 1);
        }
        Check.badState(x, "one more", () -> x.gate(0, 1, 0, 24));
        Check.same("the last one", x.ofGate(7, 0), 0);
        Check.noSuch(x, "none behind it", () -> x.ofGate(8, 0));
    }

    private static void gatesOfOneLand() {
        Lullabygate x = new Lullabygate();
        for (int land = 0; land <= 5; land++) {
            int one = land;
            Check.badArgument(x, "from LAND " + land + " to itself", () -> x.gate(one, one, 0, 24));
        }
        Check.same("from 0 to 5", x.gate(0, 5, 0, 24), 0);
        Check.same("from 5 to 0", x.gate(5, 0, 0, 24), 1);
        Check.same("the same two once more", x.gate(0, 5, 0, 24), 2);
    }

    private static void crossedBothWays() {
        for (int land = 0; land <= 1; land++) {
            Lullabygate x = Scene.openGate();
            x.sleeper(land, false, 9);
            Scene.cross(x, 0, 0, 0);
            Check.same("from " + land, x.ofSleeper(0, 0), 1 - land);
            Scene.cross(x, 0, 0, 0);
            Check.same("and back", x.ofSleeper(0, 0), land);
            Check.same("a way from " + land, x.way(land, 1 - land), 1);
        }
    }

    private static void openFor1To24Hours() {
        int[][] fromHours = {{0, 1}, {0, 24}, {23, 1}, {11, 12}};
        for (int[] g : fromHours) {
            Lullabygate x = new Lullabygate();
            x.gate(0, 1, g[0], g[1]);
            for (int hour = 0; hour < 24; hour++) {
                boolean isOpen = hour >= g[0] && hour < g[0] + g[1];
                Check.same(g[0] + " for " + g[1] + " at " + hour, x.ofGate(0, 2), isOpen ? 1 : 0);
                x.pass(1);
            }
        }
    }

    private static void openBehind23() {
        int[][] fromHoursAndShut = {{23, 2, 1}, {23, 23, 22}, {1, 23, 0}, {13, 12, 1}};
        for (int[] g : fromHoursAndShut) {
            Lullabygate x = new Lullabygate();
            x.gate(0, 1, g[0], g[1]);
            Scene.toHour(x, 23);
            Check.same("at 23, from " + g[0], x.ofGate(0, 2), 1);
            Scene.toHour(x, (g[2] + 23) % 24);
            Check.same("the last HOUR, from " + g[0], x.ofGate(0, 2), 1);
            x.pass(1);
            Check.same("the HOUR behind it, from " + g[0], x.ofGate(0, 2), 0);
        }
        Lullabygate always = new Lullabygate();
        always.gate(0, 1, 23, 24);
        for (int hour = 0; hour < 24; hour++) {
            Check.same("24 hours from 23, at " + hour, always.ofGate(0, 2), 1);
            always.pass(1);
        }
    }

    private static void oddsFrom0To10() {
        Lullabygate x = new Lullabygate();
        x.gate(0, 1, 0, 24);
        Check.same("at first", x.odds(0, 0), 5);
        Check.same("the least", x.odds(0, 10), 0);
        Check.same("the most", x.odds(0, 10), 10);
        Check.outside(x, "ODDS", 0, 10, BAD, odds -> x.odds(0, odds));
    }

    private static void watchAtFirst() {
        Lullabygate x = new Lullabygate();
        x.pass(48);
        x.gate(0, 1, 0, 24);
        Check.same("of a GATE that is OPEN as it is told", x.ofGate(0, 4), 0);
        Check.same("its GUARD does not DOZE", x.ofGate(0, 5), 0);
        x.pass(1);
        Check.same("an HOUR later", x.ofGate(0, 4), 1);
    }

    private static void dozesFrom5On() {
        Lullabygate x = Scene.openGate();
        for (int watch = 0; watch <= 6; watch++) {
            Check.same("a WATCH of " + watch, x.ofGate(0, 5), watch < 5 ? 0 : 1);
            x.pass(1);
        }
        x.pass(48);
        Check.same("a WATCH of 55", x.ofGate(0, 4), 55);
        Check.same("it DOZES still", x.ofGate(0, 5), 1);
    }

    private static void relievedFromAnyWatch() {
        Lullabygate x = Scene.openGate();
        Check.same("before: 0", x.relieve(0), 0);
        Check.same("0 again", x.ofGate(0, 4), 0);
        x.pass(5);
        Check.same("before: 5", x.relieve(0), 5);
        Check.same("WATCH", x.ofGate(0, 4), 0);
        Check.same("the new GUARD does not DOZE", x.ofGate(0, 5), 0);
        Check.same("before: 0 once more", x.relieve(0), 0);
        Lullabygate shut = new Lullabygate();
        shut.gate(0, 1, 12, 1);
        Check.same("at a GATE that is not OPEN", shut.relieve(0), 0);
    }

    private static void nothingAtFirst() {
        Lullabygate x = new Lullabygate();
        Check.same("GATES", x.night(2), 0);
        Check.same("SLEEPERS", x.night(3), 0);
        Check.same("PARTS", x.night(5), 0);
        Check.noSuch(x, "GATE 0", () -> x.queue(0));
        Check.noSuch(x, "SLEEPER 0", () -> x.leave(0));
        Check.noSuch(x, "PART 0", () -> x.appeal(0));
        Check.same("a PLAN without GATES", x.plan(0, -1), 0);
        Check.same("it is sound", x.isSound(), true);
        Check.same("HOURS go by all the same", x.pass(1), 1);
    }

    private static void rateBefore() {
        Lullabygate x = new Lullabygate();
        Check.same("at first", x.land(0, 50, 0), 10);
        Check.same("the most", x.land(0, 0, 99), 50);
        Check.same("the least", x.land(0, 0, 99), 0);
        Check.same("of another LAND", x.land(1, 0, 0), 10);
    }

    private static void landOutside() {
        Lullabygate x = new Lullabygate();
        Check.same("0", x.land(0, 1, 1), 10);
        Check.same("5", x.land(5, 1, 1), 10);
        Check.outside(x, "LAND", 0, 5, NO_SUCH, land -> x.land(land, 1, 1));
    }

    private static void rulesOutside() {
        Lullabygate x = new Lullabygate();
        x.land(0, 7, 8);
        Check.outside(x, "RATE", 0, 50, BAD, rate -> x.land(0, rate, 9));
        Check.outside(x, "ALLOWANCE", 0, 99, BAD, allowance -> x.land(0, 9, allowance));
        Check.same("RATE stays", x.ofLand(0, 0), 7);
        Check.same("ALLOWANCE stays", x.ofLand(0, 1), 8);
    }

    private static void quotaThen() {
        Lullabygate x = new Lullabygate();
        Check.same("of nothing", x.trade(0, 1, 0), 5);
        Check.same("of one", x.trade(0, 1, 1), 6);
        Check.same("of all that is left", x.trade(0, 1, 4), 10);
        Check.same("of nothing that is left", x.trade(0, 1, 0), 10);
    }

    private static void tradeOutside() {
        Lullabygate x = new Lullabygate();
        Check.same("from 0 to 5", x.trade(0, 5, 1), 6);
        Check.same("from 5 to 0", x.trade(5, 0, 1), 5);
        Check.outside(x, "from", 0, 5, NO_SUCH, land -> x.trade(land, 1, 0));
        Check.outside(x, "to", 0, 5, NO_SUCH, land -> x.trade(1, land, 0));
    }

    private static void tradeWithItselfOrBelow0() {
        Lullabygate x = new Lullabygate();
        for (int land = 0; land <= 5; land++) {
            int one = land;
            Check.badArgument(x, "LAND " + land + " with itself", () -> x.trade(one, one, 0));
        }
        Check.same("0 of it", x.trade(0, 1, 0), 5);
        Check.badArgument(x, "-1 of it", () -> x.trade(0, 1, -1));
        Check.badArgument(x, "the least int", () -> x.trade(0, 1, Integer.MIN_VALUE));
    }

    private static void tradeOfMoreThanItHas() {
        Lullabygate x = new Lullabygate();
        Check.badState(x, "6 of 5", () -> x.trade(0, 1, 6));
        Check.badState(x, "the greatest int", () -> x.trade(0, 1, Integer.MAX_VALUE));
        Check.same("5 of 5", x.trade(0, 1, 5), 10);
        Check.badState(x, "1 of 0", () -> x.trade(0, 1, 1));
    }

    /** QUOTAS are together 30, so a LAND that has 30 is asked for nothing that another one has. */
    private static void tradeUpTo30() {
        Lullabygate x = new Lullabygate();
        for (int land = 1; land <= 4; land++) {
            x.trade(land, 0, 5);
        }
        Check.same("25", x.ofLand(0, 2), 25);
        Check.badState(x, "31", () -> x.trade(5, 0, 6));
        Check.same("30", x.trade(5, 0, 5), 30);
        Check.badState(x, "31 once more", () -> x.trade(5, 0, 1));
        Check.same("30 and nothing more", x.trade(5, 0, 0), 30);
        Check.same("all of it to another one", x.trade(0, 5, 30), 30);
    }

    private static void gateOutside() {
        Lullabygate x = new Lullabygate();
        Check.same("from 0 to 5", x.gate(0, 5, 0, 1), 0);
        Check.outside(x, "one", 0, 5, NO_SUCH, land -> x.gate(land, 1, 0, 1));
        Check.outside(x, "other", 0, 5, NO_SUCH, land -> x.gate(1, land, 0, 1));
    }

    private static void hoursOutside() {
        Lullabygate x = new Lullabygate();
        Check.same("the least of both", x.gate(0, 1, 0, 1), 0);
        Check.same("the most of both", x.gate(0, 1, 23, 24), 1);
        Check.outside(x, "from", 0, 23, BAD, from -> x.gate(0, 1, from, 1));
        Check.outside(x, "hours", 1, 24, BAD, hours -> x.gate(0, 1, 0, hours));
    }

    private static void theNinthGate() {
        Lullabygate x = new Lullabygate();
        for (int k = 0; k < 7; k++) {
            x.gate(0, 1, 0, 24);
        }
        Check.same("the eighth", x.gate(4, 5, 0, 24), 7);
        Check.badState(x, "the ninth", () -> x.gate(4, 5, 0, 24));
        Check.badState(x, "the ninth again", () -> x.gate(0, 1, 0, 24));
        Check.same("8", x.night(2), 8);
    }

    private static void oddsWithoutGate() {
        Lullabygate x = new Lullabygate();
        Check.noSuch(x, "GATE 0 of none", () -> x.odds(0, 5));
        x.gate(0, 1, 0, 24);
        Check.outside(x, "GATE", 0, 0, NO_SUCH, gate -> x.odds(gate, 5));
        for (int k = 1; k < 8; k++) {
            x.gate(0, 1, 0, 24);
        }
        Check.outside(x, "GATE", 0, 7, NO_SUCH, gate -> x.odds(gate, 5));
    }

    private static void oddsOutside() {
        Lullabygate x = Scene.openGate();
        x.odds(0, 3);
        Check.outside(x, "ODDS", 0, 10, BAD, odds -> x.odds(0, odds));
        Check.same("ODDS stay", x.ofGate(0, 3), 3);
    }

    private static void relieveWithoutGate() {
        Lullabygate x = new Lullabygate();
        Check.noSuch(x, "GATE 0 of none", () -> x.relieve(0));
        x.gate(0, 1, 0, 24);
        x.pass(2);
        Check.outside(x, "GATE", 0, 0, NO_SUCH, gate -> x.relieve(gate));
        Check.same("WATCH stays", x.ofGate(0, 4), 2);
    }
}
