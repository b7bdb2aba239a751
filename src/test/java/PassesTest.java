/** Promises 10, 11 and 21. */
final class PassesTest {
    private PassesTest() {
    }

    static void run() {
        promise10Sing();
        promise10SingRefuses();
        promise10SingToAnyone();
        promise11Revoke();
        promise11RevokeRefuses();
        promise21IsGood();
        promise21IsGoodWithDozing();
        promise21IsGoodAtTheEnds();
        promise21IsGoodRefuses();
    }

    private static void promise10Sing() {
        Lullabygate x = new Lullabygate();
        for (int k = 0; k < 8; k++) {
            x.gate(0, 1, 0, 24);
        }
        for (int k = 0; k < 12; k++) {
            x.sleeper(0, false, 9);
        }
        Check.same("RIGHT VERSE of 0, 0, 0", x.sing(0, 0, 0, 96), 0);
        Check.same("the VERSE of the PASS", x.ofSleeper(0, 6), 96);
        Check.same("another one has none", x.ofSleeper(1, 6), Scene.NONE);
        Check.same("RIGHT VERSE of 11, 7, 99", x.sing(11, 7, 99, 0), (143 + 203 + 693) % 97);
        Check.same("RIGHT VERSE of 5, 3, 14", x.sing(5, 3, 14, 0), 250 % 97);
        Check.same("in the place of the first", x.sing(0, 1, 0, 3), 29);
        Check.same("its VERSE", x.ofSleeper(0, 6), 3);
        x.pass(48);
        Check.same("RIGHT VERSE later", x.sing(0, 0, 2, 0), 14);
        x.sing(0, 0, 2, 14);
        Check.same("good", x.isGood(0, 0), true);
        x.sing(0, 1, 2, 43);
        Check.same("the first PASS is gone", x.isGood(0, 0), false);
        Check.same("the new one is there", x.isGood(0, 1), true);
    }

    private static void promise10SingRefuses() {
        Lullabygate x = new Lullabygate();
        Check.noSuch(x, "sing without SLEEPERS", () -> x.sing(0, 0, 0, 0));
        x.sleeper(0, false, 9);
        Check.noSuch(x, "sing without GATES", () -> x.sing(0, 0, 0, 0));
        x.gate(0, 1, 0, 24);
        x.sing(0, 0, 0, 7);
        for (int number : new int[] {-1, 1, Scene.BIG, Scene.SMALL}) {
            Check.noSuch(x, "sing to " + number, () -> x.sing(number, 0, 0, 0));
            Check.noSuch(x, "sing at " + number, () -> x.sing(0, number, 0, 0));
            Check.noSuch(x, "sing ahead of others " + number, () -> x.sing(0, number, 100, 97));
        }
        x.pass(48);
        x.sing(0, 0, 2, 7);
        for (int night : new int[] {-1, 0, 1, 100, Scene.BIG, Scene.SMALL}) {
            Check.badArgument(x, "sing for " + night, () -> x.sing(0, 0, night, 0));
        }
        for (int verse : new int[] {-1, 97, Scene.BIG, Scene.SMALL}) {
            Check.badArgument(x, "sing VERSE " + verse, () -> x.sing(0, 0, 2, verse));
        }
        Check.same("the PASS stays", x.ofSleeper(0, 6), 7);
    }

    private static void promise10SingToAnyone() {
        Lullabygate x = Scene.openGate();
        x.sleeper(0, false, 1);
        x.join(0, 0, 0);
        Check.same("sing in a QUEUE", x.sing(0, 0, 0, 0), 0);
        Check.same("good in a QUEUE", x.isGood(0, 0), true);
        x.leave(0);
        Scene.wake(x, 0, 0);
        Check.same("an AWAKE one keeps its PASS", x.ofSleeper(0, 6), 0);
        Check.same("sing to an AWAKE one", x.sing(0, 0, 0, 5), 0);
        Check.same("its VERSE", x.ofSleeper(0, 6), 5);
        x.pass(24);
        Check.same("it is gone with the NIGHT", x.ofSleeper(0, 6), Scene.NONE);
    }

    private static void promise11Revoke() {
        Lullabygate x = Scene.openGate();
        x.gate(1, 2, 0, 24);
        for (int verse : new int[] {0, 31, 32, 63, 64, 65, 95, 96}) {
            Check.same("revoke " + verse, x.revoke(0, verse), true);
            Check.same("revoke again " + verse, x.revoke(0, verse), false);
        }
        Check.same("how many", x.ofGate(0, 9), 8);
        Check.same("not yet at the next one", x.ofGate(1, 9), 0);
        x.pass(1);
        Check.same("all at the next one", x.ofGate(1, 9), 8);
        Check.same("revoke what came there", x.revoke(1, 96), false);
        Check.same("revoke another one", x.revoke(1, 1), true);
        for (int verse = 0; verse <= 96; verse++) {
            x.revoke(0, verse);
        }
        Check.same("all VERSES", x.ofGate(0, 9), 97);
    }

    private static void promise11RevokeRefuses() {
        Lullabygate x = Scene.openGate();
        for (int gate : new int[] {-1, 1, Scene.BIG, Scene.SMALL}) {
            Check.noSuch(x, "revoke at " + gate, () -> x.revoke(gate, 0));
            Check.noSuch(x, "revoke ahead of VERSE " + gate, () -> x.revoke(gate, 97));
        }
        for (int verse : new int[] {-1, 97, Scene.BIG, Scene.SMALL}) {
            Check.badArgument(x, "revoke VERSE " + verse, () -> x.revoke(0, verse));
        }
        Check.same("none REVOKED", x.ofGate(0, 9), 0);
    }

    private static void promise21IsGood() {
        Lullabygate x = Scene.openGate();
        x.gate(0, 1, 0, 24);
        x.sleeper(0, false, 9);
        x.sleeper(0, false, 9);
        Check.same("without a PASS", x.isGood(1, 0), false);
        x.sing(1, 0, 0, 13);
        Check.same("right", x.isGood(1, 0), true);
        Check.same("another GATE", x.isGood(1, 1), false);
        Check.same("another SLEEPER", x.isGood(0, 0), false);
        x.revoke(1, 13);
        Check.same("REVOKED elsewhere", x.isGood(1, 0), true);
        x.revoke(0, 13);
        Check.same("REVOKED", x.isGood(1, 0), false);
        x.sing(1, 0, 0, 12);
        Check.same("1 less", x.isGood(1, 0), false);
        x.sing(1, 0, 0, 14);
        Check.same("1 more", x.isGood(1, 0), false);
        x.sing(1, 0, 1, 20);
        Check.same("another NIGHT", x.isGood(1, 0), false);
        x.pass(23);
        x.relieve(0);
        Check.same("not yet its NIGHT", x.isGood(1, 0), false);
        x.pass(1);
        Check.same("on its NIGHT", x.isGood(1, 0), true);
    }

    private static void promise21IsGoodWithDozing() {
        Lullabygate x = Scene.openGate();
        x.sleeper(0, false, 9);
        x.sleeper(0, false, 9);
        x.pass(4);
        int[] verses = {11, 12, 13, 14, 15};
        boolean[] awake = {false, false, true, false, false};
        boolean[] dozing = {false, true, true, true, false};
        for (int k = 0; k < 5; k++) {
            x.sing(1, 0, 0, verses[k]);
            Check.same("a WATCH of 4, VERSE " + verses[k], x.isGood(1, 0), awake[k]);
        }
        x.pass(1);
        for (int k = 0; k < 5; k++) {
            x.sing(1, 0, 0, verses[k]);
            Check.same("a WATCH of 5, VERSE " + verses[k], x.isGood(1, 0), dozing[k]);
            x.revoke(0, verses[k]);
            Check.same("REVOKED, a WATCH of 5, VERSE " + verses[k], x.isGood(1, 0), dozing[k]);
        }
        x.sing(1, 0, 1, 13);
        Check.same("of another NIGHT", x.isGood(1, 0), false);
    }

    /** VERSES differ as numbers: 96 and 0 do not differ by 1. */
    private static void promise21IsGoodAtTheEnds() {
        Lullabygate x = Scene.openGate();
        x.sleeper(0, false, 9);
        x.pass(5);
        x.sing(0, 0, 0, 96);
        Check.same("96 in the place of 0", x.isGood(0, 0), false);
        x.sing(0, 0, 0, 1);
        Check.same("1 in the place of 0", x.isGood(0, 0), true);
    }

    private static void promise21IsGoodRefuses() {
        Lullabygate x = Scene.openGate();
        x.sleeper(0, false, 9);
        for (int number : new int[] {-1, 1, Scene.BIG, Scene.SMALL}) {
            Check.noSuch(x, "isGood of " + number, () -> x.isGood(number, 0));
            Check.noSuch(x, "isGood at " + number, () -> x.isGood(0, number));
        }
    }
}
