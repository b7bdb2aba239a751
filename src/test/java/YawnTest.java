/** Promises 14, 15 and 26. */
final class YawnTest {
    private YawnTest() {
    }

    static void run() {
        promise14SentBack();
        promise14Drawn();
        promise14OddsAtTheEnds();
        promise14DozingDrawsNothing();
        promise14Caught();
        promise14Slipped();
        promise14AllowanceAndDuty();
        promise14Quota();
        promise14QuotaIsOfTheNight();
        promise14BothWays();
        promise14Patience();
        promise14Refuses();
        promise15Granted();
        promise15NotGranted();
        promise15Refuses();
        promise26WouldPay();
        promise26WithoutPassOrSleeper();
    }

    private static void promise14SentBack() {
        Lullabygate x = Scene.openGate();
        x.odds(0, 10);
        x.sleeper(0, false, 9);
        x.part(0, 0, 50, 9);
        x.part(0, 0, 50, 9);
        x.sing(0, 0, 0, 1);
        x.join(0, 0, 1);
        Check.same("sent back", x.yawn(0), Scene.NONE);
        Check.same("AT REST", x.ofSleeper(0, 2), 0);
        Check.same("in its LAND", x.ofSleeper(0, 0), 0);
        Check.same("its PASS stays", x.ofSleeper(0, 6), 1);
        Check.same("its PATIENCE stays", x.ofSleeper(0, 1), 9);
        Check.same("its PARTS stay", x.ofSleeper(0, 5), 3);
        Check.same("without a FATE", x.ofPart(0, 3) + x.ofPart(1, 3), 0);
        Check.same("nothing DRAWN", x.night(13), 0);
        Check.same("a YAWN", x.night(14), 1);
        Check.same("no HIDING", x.night(12), 0);
        Check.same("nobody stands there", x.ofGate(0, 6), 0);
        Scene.cross(x, 0, 0, 1);
        Check.same("EXEMPT or DECLARED", x.ofPart(0, 3), 1);
        Scene.wake(x, 0, 0);
        Check.same("the FATE stays", x.ofPart(0, 3), 1);
    }

    /** One who appeals at once goes through with the same PART again and again. */
    private static void promise14Drawn() {
        for (int odds : new int[] {1, 5, 9}) {
            Lullabygate x = Scene.openGate();
            x.odds(0, odds);
            x.sleeper(0, false, 9);
            x.part(0, 0, 5, 0);
            int row = 3;
            for (int k = 0; k < 90; k++) {
                int due = row % 10 < odds ? 1 : 0;
                Check.same("ODDS " + odds + ", DRAWN " + k, Scene.cross(x, 0, 0, 0), due);
                Check.same("the FATE " + k, x.ofPart(0, 3), due == 1 ? 3 : 4);
                if (due == 1) {
                    x.appeal(0);
                }
                row = (21 * row + 11) % 4096;
            }
            Check.same("DRAWN", x.night(13), 90);
            Check.same("YAWNS", x.night(14), 90);
        }
    }

    private static void promise14OddsAtTheEnds() {
        Lullabygate x = Scene.openGate();
        x.sleeper(0, false, 9);
        x.part(0, 0, 5, 0);
        for (int k = 0; k < 30; k++) {
            x.odds(0, 0);
            Check.same("ODDS 0", Scene.cross(x, 0, 0, 0), 0);
            x.odds(0, 10);
            Check.same("ODDS 10", Scene.cross(x, 0, 0, 0), 1);
            x.appeal(0);
        }
        x.part(0, 0, 0, 0);
        Check.same("nothing HIDDEN", Scene.cross(x, 0, 0, 3), 0);
        Check.same("it is DRAWN all the same", x.night(13), 61);
        Scene.cross(x, 0, 0, 0);
        Check.same("and ODDS 0 draw too", x.night(13), 62);
    }

    private static void promise14DozingDrawsNothing() {
        Lullabygate x = Scene.openGate();
        x.odds(0, 10);
        x.sleeper(0, false, 9);
        x.part(0, 0, 5, 0);
        x.pass(5);
        Check.same("with a GUARD who DOZES", Scene.cross(x, 0, 0, 0), 0);
        Check.same("SLIPPED", x.ofPart(0, 3), 4);
        Check.same("nothing DRAWN", x.night(13), 0);
        x.relieve(0);
        x.pass(4);
        Check.same("with one who does not", Scene.cross(x, 0, 0, 0), 1);
        Check.same("one DRAWN", x.night(13), 1);
    }

    private static void promise14Caught() {
        Lullabygate x = Scene.openGate();
        x.odds(0, 10);
        x.land(1, 50, 10);
        x.sleeper(0, false, 9);
        x.sleeper(0, false, 9);
        int[] worths = {40, 30, 20, 99, 1};
        for (int k = 0; k < 5; k++) {
            x.part(k == 3 ? 1 : 0, k, worths[k], k == 2 ? 9 : 0);
        }
        Check.same("how many CAUGHT", Scene.cross(x, 0, 0, 1), 3);
        Check.same("FINES there", x.ofLand(1, 5), 51);
        Check.same("FINES here", x.ofLand(0, 5), 0);
        Check.same("DUTY of the DECLARED one", x.ofLand(1, 4), 15);
        Check.same("PARTS in the STORE", x.ofLand(1, 6), 3);
        Check.same("CAUGHT ones", x.night(8), 3);
        Check.same("what is left in the HEAD", x.ofSleeper(0, 5), 1);
        Check.same("where it is", x.ofPart(1, 4), 1);
        Check.same("in nobody's HEAD", x.ofPart(1, 5), Scene.NONE);
        Check.same("a HIDDEN NIGHTMARE does not count", x.ofLand(1, 3), 0);
        Check.same("HIDINGS", x.ofSleeper(0, 8), 3);
        Check.same("the other one's PART", x.ofPart(3, 3), 0);
        Check.same("where the SLEEPER is", x.ofSleeper(0, 0), 1);
        Check.same("its PASS is gone", x.ofSleeper(0, 6), Scene.NONE);
    }

    private static void promise14Slipped() {
        Lullabygate x = Scene.openGate();
        x.sleeper(0, false, 9);
        x.part(0, 0, 40, 9);
        x.part(0, 1, 30, 0);
        Check.same("none CAUGHT", Scene.cross(x, 0, 0, 2), 0);
        Check.same("SLIPPED", x.ofPart(0, 3), 4);
        Check.same("its LAND", x.ofPart(0, 4), 1);
        Check.same("its HEAD", x.ofPart(0, 5), 0);
        Check.same("no FINE", x.night(16), 0);
        Check.same("no NIGHTMARE counts", x.ofLand(1, 3), 0);
        Check.same("DUTY of the other one alone", x.ofLand(1, 4), 1);
        Scene.cross(x, 0, 0, 3);
        Check.same("the FATE at the last GATE", x.ofPart(0, 3), 1);
        Check.same("a HIDING for each PART", x.night(12), 1);
    }

    private static void promise14AllowanceAndDuty() {
        int[][] cases = {
            // ALLOWANCE, RATE, two WORTHS, DUTY, FATE
            {20, 10, 10, 10, 0, 2}, {20, 10, 10, 11, 0, 1}, {20, 10, 15, 15, 1, 1}, {20, 10, 20, 19, 1, 1},
            {0, 50, 0, 0, 0, 2}, {0, 50, 0, 1, 0, 1}, {0, 50, 1, 2, 1, 1}, {99, 50, 99, 99, 49, 1},
            {99, 50, 99, 0, 0, 2}, {50, 0, 99, 99, 0, 1}, {0, 1, 99, 1, 1, 1}, {0, 1, 99, 0, 0, 1}
        };
        for (int[] c : cases) {
            Lullabygate x = Scene.openGate();
            x.land(1, c[1], c[0]);
            x.sleeper(0, false, 9);
            x.part(0, 0, c[2], 4);
            x.part(0, 0, c[3], 4);
            String what = "ALLOWANCE " + c[0] + ", RATE " + c[1] + ", WORTHS " + c[2] + " and " + c[3];
            Scene.singRight(x, 0, 0);
            x.join(0, 0, 3);
            Check.same(what + ": would pay", x.wouldPay(0), c[4]);
            x.yawn(0);
            Check.same(what + ": DUTY", x.ofLand(1, 4), c[4]);
            Check.same(what + ": FATE", x.ofPart(0, 3), c[5]);
            Check.same(what + ": the other's FATE", x.ofPart(1, 3), c[5]);
            Check.same(what + ": none here", x.ofLand(0, 4), 0);
        }
    }

    private static void promise14Quota() {
        Lullabygate x = Scene.openGate();
        x.trade(1, 2, 3);
        x.land(1, 50, 30);
        x.sleeper(0, false, 9);
        int[] dreads = {5, 4, 9, 5, 0, 9};
        for (int k = 0; k < 6; k++) {
            x.part(0, k, 10 + k, dreads[k]);
        }
        Scene.singRight(x, 0, 0);
        x.join(0, 0, 63);
        Check.same("10 + 11 + 12 + 14 come in", x.wouldPay(0), 8);
        Check.same("none CAUGHT", x.yawn(0), 0);
        int[] fates = {1, 1, 1, 5, 1, 5};
        for (int k = 0; k < 6; k++) {
            Check.same("FATE " + k, x.ofPart(k, 3), fates[k]);
            Check.same("LAND " + k, x.ofPart(k, 4), fates[k] == 5 ? 0 : 1);
            Check.same("HEAD " + k, x.ofPart(k, 5), fates[k] == 5 ? Scene.NONE : 0);
        }
        Check.same("DUTY", x.ofLand(1, 4), 8);
        Check.same("NIGHTMARES that came in", x.ofLand(1, 3), 2);
        Check.same("the STORE that they came from", x.ofLand(0, 6), 2);
        Check.same("TURNED BACK ones", x.night(10), 2);
        Check.same("no HIDINGS", x.night(12), 0);
        Scene.cross(x, 0, 0, 23);
        Check.same("NIGHTMARES in the other LAND", x.ofLand(0, 3), 2);
        x.trade(0, 1, 5);
        Scene.cross(x, 0, 0, 23);
        Check.same("a QUOTA that has grown", x.ofLand(1, 3), 4);
        Scene.cross(x, 0, 0, 23);
        Check.same("a QUOTA below what came in", x.ofLand(0, 3), 2);
        Check.same("all TURNED BACK", x.ofLand(1, 6), 2);
    }

    private static void promise14QuotaIsOfTheNight() {
        Lullabygate x = Scene.openGate();
        x.gate(2, 1, 0, 24);
        x.trade(1, 3, 4);
        x.land(1, 10, 99);
        for (int k = 0; k < 4; k++) {
            x.sleeper(k < 2 ? 0 : 2, false, 9);
            x.part(k, k, 10, 5);
        }
        Scene.cross(x, 0, 0, 1);
        Scene.cross(x, 2, 1, 4);
        Check.same("the QUOTA is of the LAND, not of the GATE", x.ofPart(2, 3), 5);
        Check.same("one came in", x.ofLand(1, 3), 1);
        x.pass(24);
        Check.same("none this NIGHT", x.ofLand(1, 3), 0);
        Scene.cross(x, 1, 0, 2);
        Check.same("one this NIGHT", x.ofLand(1, 3), 1);
        Check.same("EXEMPT", x.ofPart(1, 3), 2);
    }

    private static void promise14BothWays() {
        Lullabygate x = Scene.openGate();
        x.odds(0, 10);
        x.land(0, 50, 0);
        x.land(1, 0, 99);
        x.sleeper(1, false, 9);
        x.part(0, 0, 30, 0);
        x.part(0, 0, 21, 0);
        Check.same("from the other LAND", Scene.cross(x, 0, 0, 1), 1);
        Check.same("DUTY of the LAND it is coming to", x.ofLand(0, 4), 15);
        Check.same("FINE there", x.ofLand(0, 5), 21);
        Check.same("its LAND", x.ofSleeper(0, 0), 0);
    }

    private static void promise14Patience() {
        Lullabygate x = Scene.openGate();
        int[] patience = {1, 2, 1, 3, 1};
        for (int k = 0; k < 5; k++) {
            x.sleeper(0, k == 4, patience[k]);
            x.part(k, k, 1, 9);
        }
        x.part(2, 7, 1, 9);
        for (int k = 0; k < 5; k++) {
            x.join(k, 0, 0);
        }
        Check.same("the QUEUE", x.queue(0), "4b 0 1 2 3");
        Check.same("the BABY is sent back", x.yawn(0), Scene.NONE);
        Check.same("two are AWAKE", x.queue(0), "1 3");
        Check.same("who stepped out loses nothing", x.ofSleeper(4, 1), 1);
        Check.same("PATIENCE of 1", x.ofSleeper(1, 1), 1);
        Check.same("PATIENCE of 3", x.ofSleeper(3, 1), 2);
        int[] awake = {0, 0, 2, Scene.NONE, Scene.NONE, 0, Scene.NONE, 1 << 2, 0};
        for (int what = 0; what <= 8; what++) {
            Check.same("ofSleeper(2, " + what + ")", x.ofSleeper(2, what), awake[what]);
        }
        Check.same("AWAKE ones", x.night(4), 2);
        Check.same("SLEEPERS in the LAND", x.ofLand(0, 7), 3);
        Check.same("GONE ones", x.night(11), 3);
        Check.same("GONE: no LAND", x.ofPart(5, 4), Scene.NONE);
        Check.same("GONE: no HEAD", x.ofPart(5, 5), Scene.NONE);
        Check.same("others are not", x.ofPart(1, 4), 0);
        Scene.singRight(x, 1, 0);
        x.yawn(0);
        Check.same("with a GOOD PASS too", x.ofSleeper(3, 1), 1);
        Check.same("sound", x.isSound(), true);
    }

    private static void promise14Refuses() {
        Lullabygate x = new Lullabygate();
        Check.noSuch(x, "yawn without GATES", () -> x.yawn(0));
        x.gate(0, 1, 1, 2);
        x.gate(0, 1, 0, 24);
        x.sleeper(0, false, 9);
        for (int number : new int[] {-1, 2, Scene.BIG, Scene.SMALL}) {
            Check.noSuch(x, "yawn at " + number, () -> x.yawn(number));
        }
        Check.badState(x, "nobody stands there", () -> x.yawn(1));
        x.join(0, 0, 0);
        Check.badState(x, "not yet OPEN", () -> x.yawn(0));
        x.pass(3);
        Check.badState(x, "not OPEN any more", () -> x.yawn(0));
        Check.same("no YAWN", x.night(14), 0);
        x.pass(23);
        Check.same("OPEN", x.yawn(0), Scene.NONE);
        Check.badState(x, "OPEN, and nobody there", () -> x.yawn(0));
    }

    /** SLEEPER 0 came to LAND 1, where its PART 0 of WORTH 20 was CAUGHT. */
    private static Lullabygate caughtOne() {
        Lullabygate x = Scene.openGate();
        x.odds(0, 10);
        x.sleeper(0, false, 9);
        x.part(0, 6, 20, 9);
        Scene.cross(x, 0, 0, 0);
        return x;
    }

    private static void promise15Granted() {
        Lullabygate x = caughtOne();
        Check.same("FINE", x.ofLand(1, 5), 20);
        Check.same("granted", x.appeal(0), true);
        int[] due = {6, 20, 9, 2, 1, 0};
        for (int what = 0; what <= 5; what++) {
            Check.same("ofPart(0, " + what + ")", x.ofPart(0, what), due[what]);
        }
        Check.same("the FINE is paid back", x.ofLand(1, 5), 0);
        Check.same("FINES of all", x.night(16), 0);
        Check.same("the STORE", x.ofLand(1, 6), 0);
        Check.same("it does not count for the QUOTA", x.ofLand(1, 3), 0);
        Check.same("the HIDING stays", x.ofSleeper(0, 8), 1);
        Check.badState(x, "appeal twice", () -> x.appeal(0));
        Check.same("in the HEAD", x.ofSleeper(0, 5), 1);
    }

    private static void promise15NotGranted() {
        Lullabygate x = caughtOne();
        x.land(1, 10, 19);
        x.land(0, 10, 99);
        long before = x.digest();
        Check.same("WORTH above ALLOWANCE", x.appeal(0), false);
        Check.same("nothing has changed", x.digest(), before);
        x.land(1, 10, 20);
        x.join(0, 0, 0);
        Check.same("in a QUEUE", x.appeal(0), false);
        Scene.singRight(x, 0, 0);
        x.yawn(0);
        before = x.digest();
        Check.same("in another LAND", x.appeal(0), false);
        Check.same("nothing has changed", x.digest(), before);
        Scene.cross(x, 0, 0, 0);
        Check.same("back again", x.appeal(0), true);
        Lullabygate y = caughtOne();
        Scene.wake(y, 0, 0);
        Check.same("AWAKE", y.appeal(0), false);
        Check.same("CAUGHT still", y.ofPart(0, 3), 3);
        Lullabygate z = Scene.openGate();
        z.odds(0, 10);
        z.sleeper(0, false, 9);
        z.sleeper(0, false, 9);
        z.part(0, 0, 1, 0);
        z.give(0, 1);
        Scene.cross(z, 0, 0, 0);
        Scene.cross(z, 1, 0, 0);
        Scene.cross(z, 1, 0, 0);
        Check.same("who brought it is not there, another one is", z.appeal(0), false);
        Scene.cross(z, 1, 0, 0);
        Check.same("who brought it is there", z.appeal(0), true);
        Check.same("in that HEAD", z.ofPart(0, 5), 1);
    }

    private static void promise15Refuses() {
        Lullabygate x = Scene.openGate();
        Check.noSuch(x, "appeal without PARTS", () -> x.appeal(0));
        x.odds(0, 10);
        x.trade(1, 2, 5);
        x.sleeper(0, false, 9);
        x.part(0, 0, 5, 9);
        x.part(0, 1, 5, 0);
        for (int number : new int[] {-1, 2, Scene.BIG, Scene.SMALL}) {
            Check.noSuch(x, "appeal for " + number, () -> x.appeal(number));
        }
        Check.badState(x, "appeal for one in a HEAD", () -> x.appeal(0));
        Scene.cross(x, 0, 0, 3);
        Check.same("TURNED BACK", x.ofPart(0, 3), 5);
        Check.badState(x, "appeal for one TURNED BACK", () -> x.appeal(0));
        Check.badState(x, "appeal for an EXEMPT one", () -> x.appeal(1));
        x.odds(0, 0);
        Scene.cross(x, 0, 0, 0);
        Check.badState(x, "appeal for one that SLIPPED", () -> x.appeal(1));
        Scene.wake(x, 0, 0);
        Check.badState(x, "appeal for what is GONE", () -> x.appeal(1));
    }

    private static void promise26WouldPay() {
        Lullabygate x = new Lullabygate();
        x.gate(0, 1, 5, 1);
        x.land(1, 50, 10);
        x.trade(1, 2, 4);
        x.sleeper(0, false, 9);
        x.sleeper(0, false, 9);
        for (int k = 0; k < 4; k++) {
            x.part(0, 0, 20 + k, k == 3 ? 0 : 5);
        }
        Scene.singRight(x, 0, 0);
        x.join(0, 0, 14);
        long before = x.digest();
        Check.same("not OPEN, one NIGHTMARE and another one come in", x.wouldPay(0), 17);
        Check.same("the same again", x.wouldPay(0), 17);
        Check.same("nothing has changed", x.digest(), before);
        x.trade(1, 2, 1);
        Check.same("no NIGHTMARE comes in", x.wouldPay(0), 6);
        x.trade(2, 1, 3);
        Check.same("two come in", x.wouldPay(0), 28);
        x.land(1, 50, 66);
        Check.same("no more than ALLOWANCE", x.wouldPay(0), 0);
        x.land(1, 50, 0);
        Check.same("without ALLOWANCE", x.wouldPay(0), 33);
        x.pass(5);
        x.relieve(0);
        x.yawn(0);
        Check.same("and so it paid", x.ofLand(1, 4), 33);
    }

    private static void promise26WithoutPassOrSleeper() {
        Lullabygate x = Scene.openGate();
        Check.same("nobody", x.wouldPay(0), 0);
        x.land(1, 50, 0);
        x.sleeper(0, false, 9);
        x.sleeper(0, false, 9);
        x.part(0, 0, 40, 0);
        x.part(1, 0, 60, 0);
        x.join(0, 0, 1);
        x.join(1, 0, 2);
        Check.same("without a PASS", x.wouldPay(0), 0);
        Scene.singRight(x, 1, 0);
        Check.same("the second one alone has a PASS", x.wouldPay(0), 0);
        Scene.singRight(x, 0, 0);
        Check.same("with a PASS", x.wouldPay(0), 20);
        x.revoke(0, 0);
        Check.same("REVOKED", x.wouldPay(0), 0);
        x.pass(5);
        Check.same("with a GUARD who DOZES", x.wouldPay(0), 20);
        x.leave(0);
        x.relieve(0);
        Check.same("the second one is the first one then", x.wouldPay(0), 30);
        for (int number : new int[] {-1, 1, Scene.BIG, Scene.SMALL}) {
            Check.noSuch(x, "wouldPay at " + number, () -> x.wouldPay(number));
        }
    }
}
