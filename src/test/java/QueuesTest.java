/** Promises 12, 13 and 22. */
final class QueuesTest {
    private QueuesTest() {
    }

    static void run() {
        promise12Join();
        promise12JoinDeclares();
        promise12JoinRefuses();
        promise13Leave();
        promise13LeaveRefuses();
        promise22Queue();
    }

    /** SLEEPERS 0 to 5, of whom the odd ones are BABIES. */
    private static Lullabygate sixSleepers() {
        Lullabygate x = Scene.openGate();
        for (int k = 0; k < 6; k++) {
            x.sleeper(k % 3 == 2 ? 1 : 0, k % 2 == 1, 9);
        }
        return x;
    }

    private static void promise12Join() {
        Lullabygate x = sixSleepers();
        Check.same("the first one", x.join(0, 0, 0), 0);
        Check.same("at the end", x.join(2, 0, 0), 1);
        Check.same("a BABY ahead of all others", x.join(1, 0, 0), 0);
        Check.same("behind the last BABY", x.join(3, 0, 0), 1);
        Check.same("at the end", x.join(4, 0, 0), 4);
        Check.same("behind both BABIES", x.join(5, 0, 0), 2);
        Check.same("the QUEUE", x.queue(0), "1b 3b 5b 0 2 4");
        Check.same("in a QUEUE", x.ofSleeper(4, 2), 1);
        Check.same("the GATE", x.ofSleeper(4, 3), 0);
        Check.same("the place", x.ofSleeper(4, 4), 5);
        Check.same("its LAND stays", x.ofSleeper(4, 0), 0);
        Check.same("how many", x.ofGate(0, 6), 6);
        Check.same("the first one there", x.ofGate(0, 7), 1);
        Lullabygate shut = new Lullabygate();
        shut.gate(0, 1, 1, 1);
        shut.sleeper(1, true, 9);
        Check.same("a GATE that is not OPEN", shut.join(0, 0, 0), 0);
    }

    private static void promise12JoinDeclares() {
        Lullabygate x = sixSleepers();
        for (int worth = 1; worth <= 4; worth++) {
            x.part(worth % 2, 0, worth * 10, 0);
        }
        Check.badArgument(x, "a PART of another one", () -> x.join(0, 0, 1));
        Check.badArgument(x, "one of several that is of another one", () -> x.join(0, 0, 11));
        Check.badArgument(x, "a PART that there is not", () -> x.join(0, 0, 16));
        Check.badArgument(x, "a PART above all", () -> x.join(0, 0, 1 << 30));
        Check.badArgument(x, "below 0", () -> x.join(0, 0, -1));
        Check.badArgument(x, "the least of all", () -> x.join(0, 0, Scene.SMALL));
        x.join(0, 0, 2);
        Check.same("declares one, hides one", x.ofGate(0, 8), 40);
        Check.same("no FATE yet", x.ofPart(1, 3), 0);
        x.leave(0);
        x.join(0, 0, 10);
        Check.same("declares all", x.ofGate(0, 8), 0);
        x.join(1, 0, 0);
        Check.same("hides all", x.ofGate(0, 8), 40);
    }

    private static void promise12JoinRefuses() {
        Lullabygate x = Scene.openGate();
        Check.noSuch(x, "join without SLEEPERS", () -> x.join(0, 0, 0));
        x.sleeper(0, false, 1);
        x.sleeper(2, false, 9);
        x.gate(1, 3, 0, 24);
        x.part(0, 0, 5, 0);
        for (int number : new int[] {-1, 2, Scene.BIG, Scene.SMALL}) {
            Check.noSuch(x, "join of " + number, () -> x.join(number, 0, -1));
            Check.noSuch(x, "join at " + number, () -> x.join(0, number, -1));
        }
        Check.badState(x, "join far away", () -> x.join(1, 0, 0));
        Check.badState(x, "join at the next GATE", () -> x.join(0, 1, 0));
        Check.badArgument(x, "join far away, declaring", () -> x.join(1, 0, 1));
        x.join(0, 0, 1);
        Check.badState(x, "join twice", () -> x.join(0, 0, 1));
        Check.badArgument(x, "join twice, below 0", () -> x.join(0, 0, -1));
        x.leave(0);
        Scene.wake(x, 0, 0);
        Check.badState(x, "join AWAKE", () -> x.join(0, 0, 0));
        Check.badArgument(x, "join AWAKE, declaring what is GONE", () -> x.join(0, 0, 1));
    }

    private static void promise13Leave() {
        Lullabygate x = sixSleepers();
        x.part(2, 0, 7, 0);
        for (int k = 0; k < 4; k++) {
            x.join(k, 0, 0);
        }
        Check.same("the place ahead", x.leave(2), 3);
        Check.same("AT REST", x.ofSleeper(2, 2), 0);
        Check.same("no GATE", x.ofSleeper(2, 3), Scene.NONE);
        Check.same("no place", x.ofSleeper(2, 4), Scene.NONE);
        Check.same("PATIENCE stays", x.ofSleeper(2, 1), 9);
        Check.same("the PART is in its HEAD", x.ofSleeper(2, 5), 1);
        Check.same("from the front", x.leave(1), 0);
        Check.same("the others move up", x.queue(0), "3b 0");
        Check.same("the last but one", x.leave(3), 0);
        Check.same("the last one", x.leave(0), 0);
        Check.same("nobody", x.queue(0), "-");
        Check.same("PATIENCE of all", x.ofSleeper(0, 1), 9);
    }

    private static void promise13LeaveRefuses() {
        Lullabygate x = Scene.openGate();
        Check.noSuch(x, "leave without SLEEPERS", () -> x.leave(0));
        x.sleeper(0, false, 1);
        for (int number : new int[] {-1, 1, Scene.BIG, Scene.SMALL}) {
            Check.noSuch(x, "leave of " + number, () -> x.leave(number));
        }
        Check.badState(x, "leave AT REST", () -> x.leave(0));
        x.join(0, 0, 0);
        x.leave(0);
        Check.badState(x, "leave twice", () -> x.leave(0));
        Scene.wake(x, 0, 0);
        Check.badState(x, "leave AWAKE", () -> x.leave(0));
    }

    private static void promise22Queue() {
        Lullabygate x = new Lullabygate();
        Check.noSuch(x, "queue without GATES", () -> x.queue(0));
        x.gate(0, 1, 0, 24);
        x.gate(0, 1, 0, 24);
        Check.same("nobody", x.queue(0), "-");
        for (int k = 0; k < 12; k++) {
            x.sleeper(0, k == 3 || k == 10, 9);
        }
        x.join(0, 0, 0);
        Check.same("one", x.queue(0), "0");
        x.join(7, 0, 0);
        x.join(3, 0, 0);
        Check.same("as the document has it", x.queue(0), "3b 0 7");
        x.join(10, 0, 0);
        x.join(11, 0, 0);
        Check.same("with two digits", x.queue(0), "3b 10b 0 7 11");
        Check.same("the other GATE", x.queue(1), "-");
        for (int number : new int[] {-1, 2, Scene.BIG, Scene.SMALL}) {
            Check.noSuch(x, "queue at " + number, () -> x.queue(number));
        }
    }
}
