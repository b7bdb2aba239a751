/** Edges of the terms 2, and of the promises 7 to 9. */
final class SleeperEdges {
    private static final Class<?> NO_SUCH = IndexOutOfBoundsException.class;
    private static final Class<?> BAD = IllegalArgumentException.class;

    private SleeperEdges() {
    }

    static void run() {
        Edges.of(0, "SLEEPERS: at most 12, numbered from 0", SleeperEdges::atMost12);
        Edges.of(0, "with PATIENCE (1 to 9)", SleeperEdges::patienceFrom1To9);
        Edges.of(0, "and a PASS or none", SleeperEdges::aPassOrNone);
        Edges.of(0, "Each is AT REST (at first)", SleeperEdges::atRestAtFirst);
        Edges.of(0, "or AWAKE (for good)", SleeperEdges::awakeForGood);
        Edges.of(0, "PARTS: at most 24, numbered from 0", SleeperEdges::atMost24Parts);
        Edges.of(0, "each of a DREAM (0 to 7), with a WORTH (0 to 99)", SleeperEdges::dreamsAndWorths);
        Edges.of(0, "a DREAD (0 to 9; 5 or more: a NIGHTMARE)", SleeperEdges::nightmaresFrom5On);
        Edges.of(0, "A PART is in the HEAD of a SLEEPER (at first)", SleeperEdges::inAHeadAtFirst);
        Edges.of(0, "in the STORE of a LAND", SleeperEdges::giveFromNoHead);
        Edges.of(0, "or GONE (for good)", SleeperEdges::goneForGood);
        Edges.of(0, "0 it was never told at a GATE", SleeperEdges::neverToldAtAGate);
        Edges.of(0, "1 DECLARED, 2 EXEMPT, 3 CAUGHT, 4 SLIPPED, 5 TURNED BACK", SleeperEdges::fatesFrom1To5);
        Edges.of(0, "(as it was at the last GATE through which it was brought)", SleeperEdges::fateOfTheLastGate);
        Edges.of(0, "To GIVE: a PART goes from the HEAD of one SLEEPER to that of another one in the same LAND",
            SleeperEdges::givenToAnother);
        Edges.of(0, "if both are AT REST", SleeperEdges::givenAtRest);
        Edges.of(0, "As a SLEEPER is AWAKE, all PARTS in that HEAD are GONE.", SleeperEdges::allInThatHeadAreGone);
        runPromises();
    }

    private static void runPromises() {
        Edges.of(7, "Returns its number.", SleeperEdges::atMost12);
        Edges.of(7, "Throws IndexOutOfBoundsException if land is not 0 to 5", SleeperEdges::sleeperOutside);
        Edges.of(7, "Throws IllegalArgumentException if patience is not 1 to 9", SleeperEdges::patienceOutside);
        Edges.of(7, "Throws IllegalStateException if there are 12", SleeperEdges::the13thSleeper);
        Edges.of(8, "Returns its number.", SleeperEdges::atMost24Parts);
        Edges.of(8, "Throws IndexOutOfBoundsException if there is no such SLEEPER", SleeperEdges::partInNoHead);
        Edges.of(8, "Throws IllegalArgumentException if dream is not 0 to 7, worth not 0 to 99, or dread not 0 to 9",
            SleeperEdges::partOutside);
        Edges.of(8, "Throws IllegalStateException if there are 24", SleeperEdges::the25thPart);
        Edges.of(8, "or the SLEEPER is not AT REST", SleeperEdges::partNotAtRest);
        Edges.of(9, "Returns in whose HEAD it was.", SleeperEdges::givenToAnother);
        Edges.of(9, "Throws IndexOutOfBoundsException if there is no such PART, or SLEEPER", SleeperEdges::giveOutside);
        Edges.of(9, "Throws IllegalStateException if it is in no HEAD", SleeperEdges::giveFromNoHead);
        Edges.of(9, "or in that one", SleeperEdges::giveToItself);
        Edges.of(9, "or both are not in the same LAND and AT REST", SleeperEdges::givenAtRest);
    }

    private static void atMost12() {
        Lullabygate x = new Lullabygate();
        for (int number = 0; number < 12; number++) {
            Check.same("the number", x.sleeper(5, number % 2 == 0, 9), number);
            Check.same("how many", x.night(3), number + 1);
        }
        Check.badState(x, "one more", () -> x.sleeper(5, false, 9));
        Check.same("the last one", x.ofSleeper(11, 0), 5);
        Check.noSuch(x, "none behind it", () -> x.ofSleeper(12, 0));
    }

    private static void patienceFrom1To9() {
        for (int patience = 1; patience <= 9; patience += 8) {
            Lullabygate x = Scene.openGate();
            x.sleeper(0, false, patience);
            x.sleeper(0, true, 9);
            x.join(0, 0, 0);
            for (int yawn = 1; yawn <= patience; yawn++) {
                Check.same("AT REST or in a QUEUE ahead of YAWN " + yawn, x.ofSleeper(0, 2), 1);
                x.join(1, 0, 0);
                x.yawn(0);
                Check.same("PATIENCE", x.ofSleeper(0, 1), patience - yawn);
            }
            Check.same("AWAKE behind " + patience, x.ofSleeper(0, 2), 2);
        }
    }

    private static void aPassOrNone() {
        Lullabygate x = Scene.openGate();
        x.sleeper(0, false, 9);
        Check.same("none at first", x.ofSleeper(0, 6), -1);
        Check.same("none is not GOOD", x.isGood(0, 0), false);
        x.sing(0, 0, 0, 0);
        Check.same("one with the VERSE 0", x.ofSleeper(0, 6), 0);
        x.sing(0, 0, 0, 96);
        Check.same("one in its place", x.ofSleeper(0, 6), 96);
    }

    private static void atRestAtFirst() {
        Lullabygate x = Scene.openGate();
        x.sleeper(0, true, 1);
        Check.same("AT REST", x.ofSleeper(0, 2), 0);
        Check.same("in no QUEUE", x.ofSleeper(0, 3), -1);
        Check.badState(x, "it can't LEAVE", () -> x.leave(0));
        Check.same("it can JOIN", x.join(0, 0, 0), 0);
    }

    private static void awakeForGood() {
        Lullabygate x = Scene.openGate();
        x.sleeper(0, false, 1);
        x.sleeper(0, false, 9);
        x.part(1, 0, 0, 0);
        Scene.wake(x, 0, 0);
        Check.badState(x, "JOIN", () -> x.join(0, 0, 0));
        Check.badState(x, "LEAVE", () -> x.leave(0));
        Check.badState(x, "a new PART", () -> x.part(0, 0, 0, 0));
        Check.badState(x, "GIVE to it", () -> x.give(0, 0));
        x.sing(0, 0, 0, 0);
        Check.same("with a PASS", x.ofSleeper(0, 2), 2);
        x.pass(48);
        Check.same("two NIGHTS later", x.ofSleeper(0, 2), 2);
        Check.same("PATIENCE stays 0", x.ofSleeper(0, 1), 0);
        Check.same("AWAKE ones", x.night(4), 1);
    }

    private static void atMost24Parts() {
        Lullabygate x = new Lullabygate();
        x.sleeper(0, false, 9);
        for (int number = 0; number < 24; number++) {
            Check.same("the number", x.part(0, 7, 99, 9), number);
            Check.same("how many", x.night(5), number + 1);
        }
        Check.badState(x, "one more", () -> x.part(0, 7, 99, 9));
        Check.same("the last one", x.ofPart(23, 1), 99);
        Check.noSuch(x, "none behind it", () -> x.ofPart(24, 0));
    }

    private static void dreamsAndWorths() {
        Lullabygate x = new Lullabygate();
        x.sleeper(0, false, 9);
        x.part(0, 0, 0, 0);
        x.part(0, 7, 99, 0);
        Check.same("the least DREAM", x.ofPart(0, 0), 0);
        Check.same("the least WORTH", x.ofPart(0, 1), 0);
        Check.same("the greatest DREAM", x.ofPart(1, 0), 7);
        Check.same("the greatest WORTH", x.ofPart(1, 1), 99);
        Check.outside(x, "DREAM", 0, 7, BAD, dream -> x.part(0, dream, 0, 0));
        Check.outside(x, "WORTH", 0, 99, BAD, worth -> x.part(0, 0, worth, 0));
    }

    private static void nightmaresFrom5On() {
        for (int dread = 0; dread <= 9; dread++) {
            Lullabygate x = Scene.openGate();
            x.sleeper(0, false, 9);
            x.part(0, 0, 0, dread);
            Check.same("DREAD", x.ofPart(0, 2), dread);
            Scene.cross(x, 0, 0, 1);
            Check.same("NIGHTMARES of DREAD " + dread, x.ofLand(1, 3), dread < 5 ? 0 : 1);
        }
        Lullabygate x = Scene.openGate();
        x.sleeper(0, false, 9);
        Check.outside(x, "DREAD", 0, 9, BAD, dread -> x.part(0, 0, 0, dread));
    }

    private static void inAHeadAtFirst() {
        Lullabygate x = new Lullabygate();
        x.sleeper(3, false, 9);
        x.part(0, 0, 0, 0);
        Check.same("in that HEAD", x.ofPart(0, 5), 0);
        Check.same("in that LAND", x.ofPart(0, 4), 3);
        Check.same("in no STORE", x.ofLand(3, 6), 0);
        Check.same("not GONE", x.night(11), 0);
        Check.same("its FATE", x.ofPart(0, 3), 0);
    }

    private static void goneForGood() {
        Lullabygate x = Scene.openGate();
        x.sleeper(0, false, 1);
        x.sleeper(0, false, 9);
        x.part(0, 3, 5, 5);
        Scene.wake(x, 0, 0);
        Check.badState(x, "GIVE", () -> x.give(0, 1));
        Check.badState(x, "APPEAL", () -> x.appeal(0));
        Check.badArgument(x, "DECLARE", () -> x.join(1, 0, 1));
        x.pass(48);
        Check.same("in no LAND", x.ofPart(0, 4), -1);
        Check.same("in no HEAD", x.ofPart(0, 5), -1);
        Check.same("GONE ones", x.night(11), 1);
        Check.same("it counts among PARTS", x.night(5), 1);
        Check.same("its DREAM is WHOLE nowhere", x.ofLand(0, 8), 0);
    }

    private static void neverToldAtAGate() {
        Lullabygate x = Scene.openGate();
        x.sleeper(0, false, 9);
        x.part(0, 0, 0, 0);
        Check.same("as it is told", x.ofPart(0, 3), 0);
        x.join(0, 0, 1);
        Check.same("DECLARED in a QUEUE", x.ofPart(0, 3), 0);
        x.leave(0);
        x.join(0, 0, 0);
        x.yawn(0);
        Check.same("sent back", x.ofPart(0, 3), 0);
        for (int what = 6; what <= 10; what++) {
            Check.same("none of FATE " + (what - 5), x.night(what), 0);
        }
    }

    private static void fatesFrom1To5() {
        Lullabygate x = Scene.openGate();
        x.gate(0, 1, 0, 24);
        x.odds(1, 10);
        x.trade(1, 2, 5);
        for (int k = 0; k < 4; k++) {
            x.sleeper(0, false, 9);
            x.part(k, 0, k == 0 ? 21 : 20, 0);
        }
        x.part(0, 0, 0, 5);
        Scene.cross(x, 0, 0, 17);
        Scene.cross(x, 1, 0, 2);
        Scene.cross(x, 2, 1, 0);
        Scene.cross(x, 3, 0, 0);
        for (int part = 0; part <= 4; part++) {
            Check.same("the FATE of " + part, x.ofPart(part, 3), part + 1);
            Check.same("one of that FATE", x.night(part + 6), 1);
        }
    }

    private static void fateOfTheLastGate() {
        Lullabygate x = Scene.openGate();
        x.sleeper(0, false, 9);
        x.sleeper(1, false, 9);
        x.part(0, 0, 21, 0);
        Scene.cross(x, 0, 0, 0);
        Check.same("SLIPPED", x.ofPart(0, 3), 4);
        Scene.cross(x, 0, 0, 1);
        Check.same("DECLARED", x.ofPart(0, 3), 1);
        x.land(1, 10, 21);
        Scene.cross(x, 0, 0, 1);
        Check.same("EXEMPT", x.ofPart(0, 3), 2);
        x.give(0, 1);
        x.join(1, 0, 0);
        x.yawn(0);
        Check.same("given away and sent back", x.ofPart(0, 3), 2);
        x.odds(0, 10);
        Scene.cross(x, 1, 0, 0);
        Check.same("CAUGHT", x.ofPart(0, 3), 3);
    }

    private static void givenToAnother() {
        Lullabygate x = new Lullabygate();
        x.sleeper(2, false, 9);
        x.sleeper(2, true, 1);
        x.sleeper(3, true, 1);
        x.part(0, 0, 0, 0);
        Check.badState(x, "to one in another LAND", () -> x.give(0, 2));
        Check.same("in whose HEAD it was", x.give(0, 1), 0);
        Check.same("an empty HEAD", x.ofSleeper(0, 5), 0);
        Check.same("the other HEAD", x.ofSleeper(1, 5), 1);
        Check.same("and back", x.give(0, 0), 1);
    }

    private static void givenAtRest() {
        Lullabygate x = Scene.openGate();
        x.gate(0, 1, 0, 24);
        for (int k = 0; k < 3; k++) {
            x.sleeper(k / 2, false, 9);
        }
        x.part(0, 0, 0, 0);
        x.join(0, 0, 1);
        Check.badState(x, "the first one in a QUEUE", () -> x.give(0, 1));
        x.join(1, 0, 0);
        Check.badState(x, "both in one QUEUE", () -> x.give(0, 1));
        x.leave(1);
        x.join(1, 1, 0);
        Check.badState(x, "both in QUEUES", () -> x.give(0, 1));
        x.leave(0);
        Check.badState(x, "the other one in a QUEUE", () -> x.give(0, 1));
        Check.badState(x, "in two LANDS", () -> x.give(0, 2));
        x.leave(1);
        Check.same("both AT REST", x.give(0, 1), 0);
    }

    private static void allInThatHeadAreGone() {
        Lullabygate x = Scene.openGate();
        x.sleeper(0, false, 1);
        x.sleeper(0, false, 9);
        for (int k = 0; k < 24; k++) {
            x.part(k == 23 ? 1 : 0, 0, k == 22 ? 99 : 0, 0);
        }
        x.odds(0, 10);
        Scene.cross(x, 0, 0, (1 << 22) - 1);
        Scene.cross(x, 0, 0, (1 << 22) - 1);
        Scene.wake(x, 0, 0);
        Check.same("all in its HEAD", x.night(11), 22);
        Check.same("its HEAD is empty", x.ofSleeper(0, 5), 0);
        Check.same("what is in a STORE stays", x.ofPart(22, 4), 1);
        Check.same("what is in another HEAD stays", x.ofPart(23, 5), 1);
        Lullabygate empty = Scene.openGate();
        empty.sleeper(0, false, 1);
        Scene.wake(empty, 0, 0);
        Check.same("none in an empty HEAD", empty.night(11), 0);
    }

    private static void sleeperOutside() {
        Lullabygate x = new Lullabygate();
        Check.same("in 0", x.sleeper(0, false, 1), 0);
        Check.same("in 5", x.sleeper(5, false, 1), 1);
        Check.outside(x, "LAND", 0, 5, NO_SUCH, land -> x.sleeper(land, false, 1));
    }

    private static void patienceOutside() {
        Lullabygate x = new Lullabygate();
        Check.same("1", x.sleeper(0, false, 1), 0);
        Check.same("9", x.sleeper(0, true, 9), 1);
        Check.outside(x, "PATIENCE", 1, 9, BAD, patience -> x.sleeper(0, false, patience));
    }

    private static void the13thSleeper() {
        Lullabygate x = new Lullabygate();
        for (int k = 0; k < 11; k++) {
            x.sleeper(0, false, 9);
        }
        Check.same("the twelfth", x.sleeper(0, true, 1), 11);
        Check.badState(x, "the thirteenth", () -> x.sleeper(0, true, 1));
        Check.badState(x, "the thirteenth again", () -> x.sleeper(5, false, 9));
        Check.same("12", x.night(3), 12);
        Lullabygate y = Scene.openGate();
        y.sleeper(0, false, 1);
        Scene.wake(y, 0, 0);
        for (int number = 2; number < 12; number++) {
            Check.same("AWAKE ones count too", y.sleeper(0, false, 1), number);
        }
        Check.badState(y, "the thirteenth with AWAKE ones", () -> y.sleeper(0, false, 1));
    }

    private static void partInNoHead() {
        Lullabygate x = new Lullabygate();
        Check.noSuch(x, "SLEEPER 0 of none", () -> x.part(0, 0, 0, 0));
        x.sleeper(0, false, 9);
        Check.outside(x, "SLEEPER", 0, 0, NO_SUCH, sleeper -> x.part(sleeper, 0, 0, 0));
        for (int k = 1; k < 12; k++) {
            x.sleeper(0, false, 9);
        }
        Check.outside(x, "SLEEPER", 0, 11, NO_SUCH, sleeper -> x.part(sleeper, 0, 0, 0));
        Check.same("the last SLEEPER", x.part(11, 0, 0, 0), 0);
    }

    private static void partOutside() {
        Lullabygate x = new Lullabygate();
        x.sleeper(0, false, 9);
        Check.same("the least of all", x.part(0, 0, 0, 0), 0);
        Check.same("the most of all", x.part(0, 7, 99, 9), 1);
        Check.outside(x, "DREAM", 0, 7, BAD, dream -> x.part(0, dream, 1, 1));
        Check.outside(x, "WORTH", 0, 99, BAD, worth -> x.part(0, 1, worth, 1));
        Check.outside(x, "DREAD", 0, 9, BAD, dread -> x.part(0, 1, 1, dread));
        Check.same("no more PARTS", x.night(5), 2);
    }

    private static void the25thPart() {
        Lullabygate x = Scene.openGate();
        x.odds(0, 10);
        x.sleeper(0, false, 9);
        for (int k = 0; k < 23; k++) {
            x.part(0, 0, 0, 0);
        }
        Scene.cross(x, 0, 0, 0);
        Check.same("the HEAD is empty", x.ofSleeper(0, 5), 0);
        Check.same("the 24th", x.part(0, 0, 0, 0), 23);
        Check.badState(x, "the 25th", () -> x.part(0, 0, 0, 0));
        Check.same("24", x.night(5), 24);
    }

    private static void partNotAtRest() {
        Lullabygate x = Scene.openGate();
        x.sleeper(0, false, 1);
        x.join(0, 0, 0);
        Check.badState(x, "in a QUEUE", () -> x.part(0, 0, 0, 0));
        x.leave(0);
        Check.same("AT REST", x.part(0, 0, 0, 0), 0);
        Scene.wake(x, 0, 0);
        Check.badState(x, "AWAKE", () -> x.part(0, 0, 0, 0));
    }

    private static void giveOutside() {
        Lullabygate x = new Lullabygate();
        Check.noSuch(x, "PART 0 of none", () -> x.give(0, 0));
        x.sleeper(0, false, 9);
        x.sleeper(0, false, 9);
        Check.noSuch(x, "PART 0 of none to one", () -> x.give(0, 1));
        x.part(0, 0, 0, 0);
        Check.outside(x, "PART", 0, 0, NO_SUCH, part -> x.give(part, 1));
        Check.outside(x, "SLEEPER", 0, 1, NO_SUCH, sleeper -> x.give(0, sleeper));
    }

    private static void giveFromNoHead() {
        Lullabygate x = Scene.openGate();
        x.odds(0, 10);
        x.sleeper(0, false, 1);
        x.sleeper(1, false, 9);
        x.part(0, 0, 0, 0);
        x.part(0, 0, 0, 0);
        Scene.cross(x, 0, 0, 1);
        Check.badState(x, "from a STORE to who brought it", () -> x.give(1, 0));
        Check.badState(x, "from a STORE to another one", () -> x.give(1, 1));
        Scene.wake(x, 0, 0);
        Check.badState(x, "what is GONE", () -> x.give(0, 1));
    }

    private static void giveToItself() {
        Lullabygate x = new Lullabygate();
        x.sleeper(0, false, 9);
        x.sleeper(0, false, 9);
        x.part(0, 0, 0, 0);
        Check.badState(x, "to itself", () -> x.give(0, 0));
        x.give(0, 1);
        Check.badState(x, "to who got it just now", () -> x.give(0, 1));
        Check.same("it is there", x.ofPart(0, 5), 1);
    }
}
