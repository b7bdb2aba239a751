/** Promises 17 to 20 and 23: what is asked, and wrong numbers in it. */
final class AskedTest {
    private AskedTest() {
    }

    static void run() {
        askingRefuses();
        promise17WholeDreams();
        promise17Counts();
        promise18OfGate();
        promise19OfSleeper();
        promise20OfPart();
        promise23Night();
    }

    private static void askingRefuses() {
        Lullabygate x = Scene.openGate();
        x.sleeper(0, false, 9);
        x.part(0, 0, 0, 0);
        for (int number : new int[] {-1, 6, Scene.BIG, Scene.SMALL}) {
            Check.noSuch(x, "ofLand " + number, () -> x.ofLand(number, 9));
        }
        for (int number : new int[] {-1, 1, Scene.BIG, Scene.SMALL}) {
            Check.noSuch(x, "ofGate " + number, () -> x.ofGate(number, 10));
            Check.noSuch(x, "ofSleeper " + number, () -> x.ofSleeper(number, 9));
            Check.noSuch(x, "ofPart " + number, () -> x.ofPart(number, 6));
        }
        for (int what : new int[] {-1, Scene.BIG, Scene.SMALL}) {
            Check.badArgument(x, "ofLand, what " + what, () -> x.ofLand(0, what));
            Check.badArgument(x, "ofGate, what " + what, () -> x.ofGate(0, what));
            Check.badArgument(x, "ofSleeper, what " + what, () -> x.ofSleeper(0, what));
            Check.badArgument(x, "ofPart, what " + what, () -> x.ofPart(0, what));
            Check.badArgument(x, "night, what " + what, () -> x.night(what));
        }
        Check.badArgument(x, "ofLand, what 9", () -> x.ofLand(0, 9));
        Check.badArgument(x, "ofGate, what 10", () -> x.ofGate(0, 10));
        Check.badArgument(x, "ofSleeper, what 9", () -> x.ofSleeper(0, 9));
        Check.badArgument(x, "ofPart, what 6", () -> x.ofPart(0, 6));
        Check.badArgument(x, "night, what 17", () -> x.night(17));
    }

    private static void promise17WholeDreams() {
        Lullabygate x = Scene.openGate();
        x.odds(0, 10);
        x.sleeper(0, false, 9);
        x.sleeper(0, false, 1);
        x.part(0, 3, 1, 0);
        x.part(0, 3, 1, 0);
        x.part(0, 7, 1, 0);
        x.part(1, 7, 1, 0);
        x.part(0, 0, 1, 0);
        Check.same("all in HEADS", x.ofLand(0, 8), 1 + 8 + 128);
        Check.same("DREAMS without PARTS are not", x.ofLand(1, 8), 0);
        Scene.cross(x, 0, 0, 1);
        Check.same("in a STORE and in a HEAD", x.ofLand(1, 8), 1 + 8);
        Check.same("7 is in two LANDS", x.ofLand(0, 8), 0);
        Scene.cross(x, 0, 0, 1);
        Check.same("a part of 3 went back", x.ofLand(1, 8), 1);
        Check.same("7 is in the other STORE", x.ofLand(0, 8), 0);
        x.part(0, 2, 1, 0);
        x.part(1, 2, 1, 0);
        x.join(1, 0, 0);
        Check.same("one in a QUEUE is in the LAND", x.ofLand(0, 8), 4);
        x.leave(1);
        Scene.wake(x, 1, 0);
        Check.same("what is GONE is not there", x.ofLand(0, 8), 0);
    }

    private static void promise17Counts() {
        Lullabygate x = Scene.openGate();
        x.land(0, 11, 22);
        x.land(1, 50, 0);
        x.odds(0, 10);
        x.sleeper(0, false, 9);
        x.sleeper(0, true, 9);
        x.part(0, 0, 10, 5);
        x.part(0, 0, 20, 5);
        x.part(1, 1, 40, 0);
        Scene.cross(x, 0, 0, 1);
        Scene.cross(x, 1, 0, 4);
        int[] due = {50, 0, 5, 1, 5 + 20, 20, 1, 2, 3};
        for (int what = 0; what <= 8; what++) {
            Check.same("ofLand(1, " + what + ")", x.ofLand(1, what), due[what]);
        }
        x.join(0, 0, 1);
        Check.same("one in a QUEUE counts", x.ofLand(1, 7), 2);
        Check.same("nobody in the other LAND", x.ofLand(0, 7), 0);
        x.pass(48);
        Check.same("DUTIES ever", x.ofLand(1, 4), 25);
        Check.same("FINES ever", x.ofLand(1, 5), 20);
        Check.same("NIGHTMARES this NIGHT", x.ofLand(1, 3), 0);
    }

    private static void promise18OfGate() {
        Lullabygate x = new Lullabygate();
        x.gate(4, 2, 20, 10);
        x.gate(1, 2, 20, 1);
        x.odds(0, 7);
        x.sleeper(4, false, 9);
        x.sleeper(2, true, 9);
        x.sleeper(2, false, 9);
        for (int k = 0; k < 6; k++) {
            x.part(k % 3, 0, 10 + k, 0);
        }
        x.join(0, 0, 1);
        x.join(1, 0, 0);
        x.join(2, 1, 4);
        x.revoke(0, 50);
        x.pass(5);
        int[] first = {4, 2, 1, 7, 5, 1, 2, 1, 13 + 11 + 14, 1};
        int[] second = {1, 2, 0, 5, 0, 0, 1, 2, 15, 1};
        for (int what = 0; what <= 9; what++) {
            Check.same("ofGate(0, " + what + ")", x.ofGate(0, what), first[what]);
            Check.same("ofGate(1, " + what + ")", x.ofGate(1, what), second[what]);
        }
    }

    private static void promise19OfSleeper() {
        Lullabygate x = new Lullabygate();
        x.gate(0, 1, 0, 24);
        x.gate(1, 2, 0, 24);
        x.odds(1, 0);
        x.sleeper(1, false, 8);
        x.sleeper(2, false, 7);
        x.part(1, 0, 10, 0);
        x.part(1, 0, 10, 0);
        Scene.cross(x, 1, 1, 1);
        x.join(0, 1, 0);
        x.sing(1, 0, 5, 96);
        x.join(1, 1, 2);
        int[] due = {1, 7, 1, 1, 1, 3, 96, 2, 1};
        for (int what = 0; what <= 8; what++) {
            Check.same("ofSleeper(1, " + what + ")", x.ofSleeper(1, what), due[what]);
        }
        x.yawn(1);
        Check.same("PATIENCE", x.ofSleeper(1, 1), 6);
        Check.same("the place then", x.ofSleeper(1, 4), 0);
        Check.same("the VERSE 0 is none of NONE", x.sing(0, 0, 0, 0), 0);
        Check.same("VERSE 0", x.ofSleeper(0, 6), 0);
    }

    private static void promise20OfPart() {
        Lullabygate x = Scene.openGate();
        x.sleeper(0, false, 9);
        x.part(0, 1, 2, 3);
        x.part(0, 4, 5, 6);
        int[] due = {4, 5, 6, 0, 0, 0};
        for (int what = 0; what <= 5; what++) {
            Check.same("ofPart(1, " + what + ")", x.ofPart(1, what), due[what]);
        }
        x.odds(0, 10);
        Scene.cross(x, 0, 0, 1);
        int[] caught = {4, 5, 6, 3, 1, Scene.NONE};
        for (int what = 0; what <= 5; what++) {
            Check.same("CAUGHT: ofPart(1, " + what + ")", x.ofPart(1, what), caught[what]);
        }
        Scene.cross(x, 0, 0, 1);
        Check.same("it stays in the STORE", x.ofPart(1, 4), 1);
        Scene.wake(x, 0, 0);
        int[] gone = {1, 2, 3, 2, Scene.NONE, Scene.NONE};
        for (int what = 0; what <= 5; what++) {
            Check.same("GONE: ofPart(0, " + what + ")", x.ofPart(0, what), gone[what]);
        }
    }

    private static void promise23Night() {
        Lullabygate x = Scene.openGate();
        x.land(1, 50, 10);
        x.trade(1, 0, 5);
        x.gate(0, 2, 0, 24);
        x.odds(1, 10);
        for (int k = 0; k < 4; k++) {
            x.sleeper(0, false, 9);
        }
        // DECLARED and TURNED BACK, then EXEMPT and SLIPPED, then CAUGHT; the last two are never told.
        int[] heads = {0, 0, 1, 1, 2, 2, 3, 3};
        int[] worths = {50, 1, 10, 1, 7, 8, 1, 1};
        for (int k = 0; k < 8; k++) {
            x.part(heads[k], 0, worths[k], k == 1 ? 5 : 0);
        }
        x.pass(1);
        Scene.cross(x, 0, 0, 3);
        Scene.cross(x, 1, 0, 4);
        Scene.cross(x, 2, 1, 0);
        Scene.wake(x, 3, 0);
        int yawns = 3 + 9;
        int[] due = {0, 1, 2, 5, 1, 8, 1, 1, 2, 1, 1, 2, 3, 3, yawns, 20, 15};
        for (int what = 0; what <= 16; what++) {
            Check.same("night(" + what + ")", x.night(what), due[what]);
        }
        Scene.wake(x, 1, 0);
        Check.same("GONE ones keep their FATES", x.night(9), 1);
        Check.same("GONE ones", x.night(11), 4);
        x.appeal(4);
        Check.same("FINES less what was paid back", x.night(16), 8);
        Check.same("EXEMPT ones", x.night(7), 2);
    }
}
