/** Edges of what the document says ahead of all else. */
final class TermsEdges {
    private TermsEdges() {
    }

    static void run() {
        Edges.of(0, "An object is used for at most 512 calls after it has been made", TermsEdges::the512thCall);
        Edges.of(0, "what is divided is rounded down", TermsEdges::roundedDown);
        Edges.of(0, "(nothing that is divided is below 0)", TermsEdges::nothingBelow0IsDivided);
        Edges.of(0, "NONE is -1.", TermsEdges::noneIsMinus1);
        Edges.of(0, "A set is the sum of 2^k for the numbers k in it.", TermsEdges::setsFromEmptyToFull);
        Edges.of(0, "X by X is by rising numbers", TermsEdges::byRisingNumbers);
        Edges.of(0, "where one of several is taken and nothing else is said, it is that with the smallest number",
            TermsEdges::byRisingNumbers);
        Edges.of(0, "A method that throws an exception changes nothing.", TermsEdges::refusedCallsChangeNothing);
        Edges.of(0, "If several exceptions apply, the one that is named first is thrown.",
            TermsEdges::theFirstNamedException);
        Edges.of(0, "the first one (that is DRAWN first) is 3", TermsEdges::theFirstDrawn);
        Edges.of(0, "each later one (21 * the one ahead + 11) modulo 4096", TermsEdges::theRowWrapsAround);
        Edges.of(0, "to DRAW is to take the next one", TermsEdges::drawingTakesTheNextOne);
        Edges.of(0, "what would be (nothing is changed)", TermsEdges::whatWouldBeChangesNothing);
    }

    private static void the512thCall() {
        Lullabygate x = new Lullabygate();
        for (int call = 1; call <= 510; call++) {
            x.trade(call % 2, 1 - call % 2, 5);
        }
        Check.same("call 511", x.digest(), new Lullabygate().digest());
        Check.same("call 512", x.pass(1), 1);
        Lullabygate full = Scene.full();
        int made = 8 + 12 + 24 + 3;
        long first = full.digest();
        for (int call = made + 2; call < 512; call++) {
            full.plan(2000, call % 8);
        }
        Check.same("call 512 of a full night", full.digest(), first);
    }

    private static void roundedDown() {
        int[][] worthAndDuty = {{1, 0}, {2, 1}, {3, 1}, {98, 49}, {99, 49}};
        for (int[] w : worthAndDuty) {
            Lullabygate x = Scene.openGate();
            x.land(1, 50, 0);
            x.sleeper(0, false, 9);
            x.part(0, 0, w[0], 0);
            Scene.cross(x, 0, 0, 1);
            Check.same("DUTY of " + w[0] + " * 50 / 100", x.ofLand(1, 4), w[1]);
        }
        int[][] worthAndCatch = {{9, 0}, {10, 1}, {11, 1}, {19, 1}, {20, 2}};
        for (int[] w : worthAndCatch) {
            Lullabygate x = Scene.hiders(w[0]);
            Check.same("CATCH of " + w[0] + " * 1 / 10 is enough", x.plan(w[1], -1), w[1] == 0 ? 0 : 1);
            Check.same("and no more of it", x.plan(w[1] + 1, -1) > 1, true);
        }
    }

    /** A WORTH below ALLOWANCE gives no DUTY below 0. */
    private static void nothingBelow0IsDivided() {
        Lullabygate x = Scene.openGate();
        x.land(1, 50, 99);
        x.sleeper(0, false, 9);
        x.part(0, 0, 0, 0);
        Scene.singRight(x, 0, 0);
        x.join(0, 0, 1);
        Check.same("would pay", x.wouldPay(0), 0);
        x.yawn(0);
        Check.same("DUTIES", x.ofLand(1, 4), 0);
    }

    private static void noneIsMinus1() {
        Lullabygate x = Scene.openGate();
        x.sleeper(0, false, 1);
        x.part(0, 0, 0, 0);
        Check.same("the first one of an empty QUEUE", x.ofGate(0, 7), -1);
        Check.same("no QUEUE", x.ofSleeper(0, 3), -1);
        Check.same("no place", x.ofSleeper(0, 4), -1);
        Check.same("no PASS", x.ofSleeper(0, 6), -1);
        Check.same("no way", x.way(0, 5), -1);
        Check.same("no PLAN", x.plan(1, -1), -1);
        Check.same("a PLAN for no GATE", x.plan(0, -1), 0);
        x.join(0, 0, 0);
        Check.same("sent back", x.yawn(0), -1);
        Scene.wake(x, 0, 0);
        Check.same("the LAND of what is GONE", x.ofPart(0, 4), -1);
        Check.same("the HEAD of what is GONE", x.ofPart(0, 5), -1);
    }

    private static void setsFromEmptyToFull() {
        Lullabygate x = new Lullabygate();
        x.gate(0, 1, 0, 24);
        for (int k = 0; k < 12; k++) {
            x.sleeper(0, false, 9);
        }
        Check.same("an empty HEAD", x.ofSleeper(11, 5), 0);
        Check.same("no DREAM is WHOLE", x.ofLand(0, 8), 0);
        Check.same("a RING of the last SLEEPER alone", x.ofSleeper(11, 7), 2048);
        for (int k = 0; k < 24; k++) {
            x.part(11, k % 8, 0, 0);
        }
        Check.same("a full HEAD", x.ofSleeper(11, 5), 16777215);
        Check.same("all DREAMS are WHOLE", x.ofLand(0, 8), 255);
        x.give(0, 0);
        Check.same("PART 0 alone", x.ofSleeper(0, 5), 1);
        x.give(23, 1);
        Check.same("PART 23 alone", x.ofSleeper(1, 5), 8388608);
        Check.badArgument(x, "PART 23 declared by another one", () -> x.join(0, 0, 8388608));
        Check.same("PART 23 declared", x.join(1, 0, 8388608), 0);
        Check.same("all others declared", x.join(11, 0, 8388606), 1);
    }

    /** The NIGHTMARE that came into the HEAD last is the one with the smallest number. */
    private static void byRisingNumbers() {
        Lullabygate x = Scene.openGate();
        x.trade(1, 2, 4);
        x.sleeper(0, false, 9);
        x.sleeper(0, false, 9);
        x.part(1, 0, 9, 9);
        x.part(0, 0, 9, 9);
        x.part(0, 0, 9, 9);
        x.give(0, 0);
        Scene.cross(x, 0, 0, 7);
        Check.same("the smallest number comes in", x.ofPart(0, 3), 2);
        Check.same("the next one is TURNED BACK", x.ofPart(1, 3), 5);
        Check.same("the last one is TURNED BACK", x.ofPart(2, 3), 5);
    }

    private static void refusedCallsChangeNothing() {
        Lullabygate right = new Lullabygate();
        Lullabygate wrongToo = new Lullabygate();
        tell(right, false);
        tell(wrongToo, true);
        Check.same("digest", wrongToo.digest(), right.digest());
        Check.same("the rest of the face", Scene.restOfTheFace(wrongToo), Scene.restOfTheFace(right));
        Check.same("the yawn behind", wrongToo.yawn(0), right.yawn(0));
        Check.same("the digest behind", wrongToo.digest(), right.digest());
    }

    private static void tell(Lullabygate x, boolean isWrongToo) {
        x.gate(0, 1, 0, 24);
        x.gate(1, 2, 5, 2);
        x.sleeper(0, false, 9);
        x.sleeper(0, true, 9);
        x.sleeper(0, false, 1);
        for (int k = 0; k < 4; k++) {
            x.part(k % 3, k, 30, 3 + k);
        }
        wrongCalls(x, isWrongToo);
        x.revoke(1, 40);
        x.sing(0, 0, 0, 0);
        x.sing(1, 0, 0, 13);
        x.join(1, 0, 2);
        x.join(2, 0, 4);
        wrongCalls(x, isWrongToo);
        x.yawn(0);
        x.join(0, 0, 1);
        wrongCalls(x, isWrongToo);
    }

    private static void wrongCalls(Lullabygate x, boolean areMade) {
        Runnable[] calls = {
            () -> x.land(6, 1, 1), () -> x.land(-1, 1, 1), () -> x.land(0, 51, 1), () -> x.land(0, 1, 100),
            () -> x.trade(0, 6, 1), () -> x.trade(-1, 0, 1), () -> x.trade(2, 2, 1), () -> x.trade(0, 1, -1),
            () -> x.trade(0, 1, 6), () -> x.gate(0, 6, 0, 1), () -> x.gate(-1, 0, 0, 1), () -> x.gate(0, 0, 0, 1),
            () -> x.gate(0, 1, 24, 1), () -> x.gate(0, 1, 0, 0), () -> x.odds(2, 1), () -> x.odds(0, 11),
            () -> x.relieve(2), () -> x.sleeper(6, true, 1), () -> x.sleeper(0, true, 10),
            () -> x.part(3, 0, 0, 0), () -> x.part(0, 8, 0, 0), () -> x.part(0, 0, 100, 0), () -> x.part(0, 0, 0, 10),
            () -> x.give(4, 1), () -> x.give(0, 3), () -> x.give(0, 0), () -> x.sing(3, 0, 0, 0),
            () -> x.sing(0, 2, 0, 0), () -> x.sing(0, 0, 100, 0), () -> x.sing(0, 1, 0, 97), () -> x.revoke(2, 0),
            () -> x.revoke(0, 97), () -> x.join(3, 0, 0), () -> x.join(0, 2, 0), () -> x.join(0, 0, 2),
            () -> x.join(0, 0, -1), () -> x.join(0, 1, 0), () -> x.leave(3), () -> x.yawn(2), () -> x.yawn(1),
            () -> x.appeal(4), () -> x.appeal(3), () -> x.pass(0), () -> x.pass(49), () -> x.ofLand(6, 0),
            () -> x.ofLand(0, 9), () -> x.ofGate(2, 0), () -> x.ofSleeper(0, 9), () -> x.ofPart(4, 0),
            () -> x.isGood(3, 0), () -> x.queue(2), () -> x.night(17), () -> x.way(0, 6), () -> x.plan(2001, -1),
            () -> x.plan(0, 2), () -> x.wouldPay(2)
        };
        int taken = areMade ? calls.length : 0;
        for (int k = 0; areMade && k < calls.length; k++) {
            try {
                calls[k].run();
            } catch (IndexOutOfBoundsException | IllegalArgumentException | IllegalStateException e) {
                taken--;
            }
        }
        Check.same("wrong calls that were not refused", taken, 0);
    }

    /** In a full night, at its last HOUR, each call is wrong in every way that the document names. */
    private static void theFirstNamedException() {
        Lullabygate x = Scene.full();
        Scene.toNight(x, 99);
        x.pass(23);
        Check.noSuch(x, "land", () -> x.land(6, 51, 100));
        Check.noSuch(x, "trade", () -> x.trade(6, 6, -1));
        Check.noSuch(x, "trade of too much", () -> x.trade(6, 0, 31));
        Check.badArgument(x, "trade with itself of too much", () -> x.trade(0, 0, 31));
        Check.noSuch(x, "gate", () -> x.gate(6, 6, 24, 25));
        Check.badArgument(x, "a ninth gate", () -> x.gate(0, 0, 24, 25));
        Check.noSuch(x, "odds", () -> x.odds(8, 11));
        Check.noSuch(x, "sleeper", () -> x.sleeper(6, true, 0));
        Check.badArgument(x, "a thirteenth sleeper", () -> x.sleeper(0, true, 0));
        Check.noSuch(x, "part", () -> x.part(12, 8, 100, 10));
        Check.badArgument(x, "a 25th part", () -> x.part(0, 8, 100, 10));
        Check.noSuch(x, "give of one in a QUEUE to nobody", () -> x.give(0, 12));
        Check.noSuch(x, "give of nothing to one in a QUEUE", () -> x.give(24, 0));
        Check.noSuch(x, "sing to nobody", () -> x.sing(12, 0, 100, 97));
        Check.noSuch(x, "sing at no GATE", () -> x.sing(0, 8, 98, -1));
        Check.noSuch(x, "revoke", () -> x.revoke(8, 97));
        Check.noSuch(x, "join of nobody", () -> x.join(12, 0, -1));
        Check.noSuch(x, "join at no GATE", () -> x.join(0, 8, -1));
        Check.badArgument(x, "join of one in a QUEUE", () -> x.join(0, 0, -1));
        Check.badArgument(x, "pass", () -> x.pass(49));
        Check.noSuch(x, "ofLand", () -> x.ofLand(6, 9));
        Check.noSuch(x, "ofGate", () -> x.ofGate(8, 10));
        Check.noSuch(x, "ofSleeper", () -> x.ofSleeper(12, 9));
        Check.noSuch(x, "ofPart", () -> x.ofPart(24, 6));
        Check.noSuch(x, "plan", () -> x.plan(2001, 8));
    }

    private static void theFirstDrawn() {
        for (int odds = 3; odds <= 4; odds++) {
            Lullabygate x = Scene.openGate();
            x.odds(0, odds);
            x.sleeper(0, false, 9);
            x.part(0, 0, 1, 0);
            Check.same("3 is less than ODDS " + odds, Scene.cross(x, 0, 0, 0), odds - 3);
        }
    }

    /** 3, 74, 1565, and then 32876 modulo 4096, which is 108. */
    private static void theRowWrapsAround() {
        int[] lastDigits = {3, 4, 5, 8};
        for (int most = 0; most < lastDigits.length; most++) {
            for (int more = 0; more <= 1; more++) {
                Lullabygate x = Scene.openGate();
                x.sleeper(0, false, 9);
                x.part(0, 0, 1, 0);
                for (int k = 0; k < most; k++) {
                    Scene.cross(x, 0, 0, 0);
                }
                x.odds(0, lastDigits[most] + more);
                Check.same("number " + most + ", " + more + " more", Scene.cross(x, 0, 0, 0), more);
            }
        }
    }

    private static void drawingTakesTheNextOne() {
        Lullabygate x = Scene.openGate();
        x.sleeper(0, false, 9);
        Check.same("none at first", x.night(13), 0);
        Scene.cross(x, 0, 0, 0);
        Check.same("one", x.night(13), 1);
        Scene.cross(x, 0, 0, 0);
        Check.same("two", x.night(13), 2);
    }

    private static void whatWouldBeChangesNothing() {
        Lullabygate x = Scene.full();
        String before = Scene.restOfTheFace(x);
        long digest = x.digest();
        x.way(0, 1);
        x.way(1, 0);
        x.plan(2000, 7);
        x.wouldPay(0);
        x.isSound();
        Check.same("the digest stays", x.digest(), digest);
        Check.same("the rest of the face stays", Scene.restOfTheFace(x), before);
    }
}
