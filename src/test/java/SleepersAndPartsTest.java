/** Promises 7 to 9. */
final class SleepersAndPartsTest {
    private SleepersAndPartsTest() {
    }

    static void run() {
        promise7Sleeper();
        promise7SleeperRefuses();
        promise8Part();
        promise8PartRefuses();
        promise8PartNotAtRest();
        promise9Give();
        promise9GiveRefuses();
    }

    private static void promise7Sleeper() {
        Lullabygate x = new Lullabygate();
        Check.same("the first SLEEPER", x.sleeper(5, false, 9), 0);
        int[] first = {5, 9, 0, Scene.NONE, Scene.NONE, 0, Scene.NONE, 1, 0};
        for (int what = 0; what <= 8; what++) {
            Check.same("ofSleeper(0, " + what + ")", x.ofSleeper(0, what), first[what]);
        }
        for (int number = 1; number < 12; number++) {
            Check.same("SLEEPER " + number, x.sleeper(0, true, 1), number);
        }
        Check.same("SLEEPERS", x.night(3), 12);
        Check.same("SLEEPERS in LAND 0", x.ofLand(0, 7), 11);
        Check.same("itself in its RING", x.ofSleeper(11, 7), 1 << 11);
        Check.badState(x, "a thirteenth", () -> x.sleeper(0, true, 1));
        Check.badArgument(x, "a thirteenth without PATIENCE", () -> x.sleeper(0, true, 0));
        Check.noSuch(x, "a thirteenth nowhere", () -> x.sleeper(6, true, 0));
    }

    private static void promise7SleeperRefuses() {
        Lullabygate x = new Lullabygate();
        for (int land : new int[] {-1, 6, Scene.BIG, Scene.SMALL}) {
            Check.noSuch(x, "sleeper in " + land, () -> x.sleeper(land, false, 1));
            Check.noSuch(x, "sleeper ahead of PATIENCE " + land, () -> x.sleeper(land, false, 0));
        }
        for (int patience : new int[] {0, -1, 10, Scene.BIG, Scene.SMALL}) {
            Check.badArgument(x, "PATIENCE " + patience, () -> x.sleeper(0, false, patience));
        }
        Check.same("no SLEEPER", x.night(3), 0);
    }

    private static void promise8Part() {
        Lullabygate x = new Lullabygate();
        x.sleeper(3, false, 5);
        x.sleeper(2, false, 5);
        Check.same("the first PART", x.part(1, 7, 99, 9), 0);
        int[] first = {7, 99, 9, 0, 2, 1};
        for (int what = 0; what <= 5; what++) {
            Check.same("ofPart(0, " + what + ")", x.ofPart(0, what), first[what]);
        }
        for (int number = 1; number < 24; number++) {
            Check.same("PART " + number, x.part(0, 0, 0, 0), number);
        }
        Check.same("PARTS", x.night(5), 24);
        Check.same("the HEAD of 1", x.ofSleeper(1, 5), 1);
        Check.same("the HEAD of 0", x.ofSleeper(0, 5), (1 << 24) - 2);
        Check.badState(x, "a 25th PART", () -> x.part(0, 0, 0, 0));
        Check.badArgument(x, "a 25th PART of no DREAM", () -> x.part(0, 8, 0, 0));
        Check.noSuch(x, "a 25th PART in no HEAD", () -> x.part(2, 8, 0, 0));
    }

    private static void promise8PartRefuses() {
        Lullabygate x = new Lullabygate();
        Check.noSuch(x, "part without SLEEPERS", () -> x.part(0, 0, 0, 0));
        x.sleeper(3, false, 5);
        for (int sleeper : new int[] {-1, 1, Scene.BIG, Scene.SMALL}) {
            Check.noSuch(x, "part of " + sleeper, () -> x.part(sleeper, 0, 0, 0));
            Check.noSuch(x, "part ahead of others " + sleeper, () -> x.part(sleeper, 8, 100, 10));
        }
        for (int dream : new int[] {-1, 8, Scene.BIG, Scene.SMALL}) {
            Check.badArgument(x, "DREAM " + dream, () -> x.part(0, dream, 0, 0));
        }
        for (int worth : new int[] {-1, 100, Scene.BIG, Scene.SMALL}) {
            Check.badArgument(x, "WORTH " + worth, () -> x.part(0, 0, worth, 0));
        }
        for (int dread : new int[] {-1, 10, Scene.BIG, Scene.SMALL}) {
            Check.badArgument(x, "DREAD " + dread, () -> x.part(0, 0, 0, dread));
        }
        Check.same("no PART", x.night(5), 0);
    }

    private static void promise8PartNotAtRest() {
        Lullabygate x = Scene.openGate();
        x.sleeper(0, false, 1);
        x.join(0, 0, 0);
        Check.badState(x, "part in a QUEUE", () -> x.part(0, 0, 0, 0));
        Check.badArgument(x, "part in a QUEUE, wrong", () -> x.part(0, 0, 0, 10));
        x.leave(0);
        Check.same("part AT REST again", x.part(0, 0, 0, 0), 0);
        Scene.wake(x, 0, 0);
        Check.badState(x, "part of an AWAKE one", () -> x.part(0, 0, 0, 0));
    }

    private static void promise9Give() {
        Lullabygate x = new Lullabygate();
        x.sleeper(4, false, 5);
        x.sleeper(4, true, 5);
        x.part(0, 1, 2, 3);
        x.part(0, 1, 2, 3);
        Check.same("give", x.give(1, 1), 0);
        Check.same("the giver's HEAD", x.ofSleeper(0, 5), 1);
        Check.same("the taker's HEAD", x.ofSleeper(1, 5), 2);
        Check.same("in whose HEAD", x.ofPart(1, 5), 1);
        Check.same("its LAND", x.ofPart(1, 4), 4);
        Check.same("its FATE", x.ofPart(1, 3), 0);
        Check.same("give back", x.give(1, 0), 1);
        Check.same("both again", x.ofSleeper(0, 5), 3);
    }

    private static void promise9GiveRefuses() {
        Lullabygate x = Scene.openGate();
        x.sleeper(0, false, 9);
        Check.noSuch(x, "give without PARTS", () -> x.give(0, 0));
        x.part(0, 1, 2, 3);
        x.sleeper(0, false, 9);
        x.sleeper(1, false, 9);
        for (int number : new int[] {-1, 3, Scene.BIG, Scene.SMALL}) {
            Check.noSuch(x, "give PART " + number, () -> x.give(number, 1));
            Check.noSuch(x, "give to " + number, () -> x.give(0, number));
        }
        Check.badState(x, "give to itself", () -> x.give(0, 0));
        Check.badState(x, "give to another LAND", () -> x.give(0, 2));
        x.join(1, 0, 0);
        Check.badState(x, "give to one in a QUEUE", () -> x.give(0, 1));
        x.join(0, 0, 0);
        Check.badState(x, "give from a QUEUE to it", () -> x.give(0, 1));
        x.leave(1);
        Check.badState(x, "give from a QUEUE", () -> x.give(0, 1));
        x.leave(0);
        x.odds(0, 10);
        Scene.cross(x, 0, 0, 0);
        Check.same("it is in a STORE", x.ofLand(1, 6), 1);
        Check.badState(x, "give from a STORE", () -> x.give(0, 2));
        x.part(1, 0, 0, 0);
        Scene.wake(x, 1, 0);
        Check.badState(x, "give what is GONE", () -> x.give(1, 0));
    }
}
