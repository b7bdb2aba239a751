/** Promises 27 and 28. */
final class DigestTest {
    private DigestTest() {
    }

    static void run() {
        promise28OfANewObject();
        promise27And28AlongARun();
    }

    /** The digest as the document tells it, over the answers of the face. */
    static long due(Lullabygate x) {
        long d = 6007;
        for (int what = 0; what <= 16; what++) {
            d = d * 31 + x.night(what);
        }
        for (int land = 0; land < 6; land++) {
            for (int what = 0; what <= 8; what++) {
                d = d * 31 + x.ofLand(land, what);
            }
        }
        for (int gate = 0; gate < x.night(2); gate++) {
            for (int what = 2; what <= 9; what++) {
                d = d * 31 + x.ofGate(gate, what);
            }
            d = d * 31 + x.wouldPay(gate);
        }
        for (int sleeper = 0; sleeper < x.night(3); sleeper++) {
            for (int what = 0; what <= 8; what++) {
                d = d * 31 + x.ofSleeper(sleeper, what);
            }
        }
        for (int part = 0; part < x.night(5); part++) {
            for (int what = 3; what <= 5; what++) {
                d = d * 31 + x.ofPart(part, what);
            }
        }
        for (int land = 0; land < 6; land++) {
            d = d * 31 + x.way(0, land);
        }
        d = d * 31 + x.plan(20, Scene.NONE);
        return d * 31 + (x.isSound() ? 1 : 0);
    }

    private static void promise28OfANewObject() {
        long d = 6007;
        for (int k = 0; k < 17; k++) {
            d = d * 31;
        }
        for (int land = 0; land < 6; land++) {
            int[] values = {10, 20, 5, 0, 0, 0, 0, 0, 0};
            for (int v : values) {
                d = d * 31 + v;
            }
        }
        int[] end = {0, -1, -1, -1, -1, -1, -1, 1};
        for (int v : end) {
            d = d * 31 + v;
        }
        Check.same("digest of a new object", new Lullabygate().digest(), d);
    }

    private static void promise27And28AlongARun() {
        Lullabygate x = new Lullabygate();
        x.gate(0, 1, 0, 24);
        x.gate(1, 2, 3, 5);
        x.land(1, 50, 5);
        for (int k = 0; k < 5; k++) {
            x.sleeper(k % 2, k == 4, 1 + k);
            x.part(k, k % 3, 10 * k, 2 * k);
            x.part(k, k % 3, 20, 0);
            step(x, "told " + k);
        }
        for (int k = 0; k < 5; k++) {
            Scene.singRight(x, k, 0);
            x.join(k, 0, 1 << 2 * k);
            step(x, "joined " + k);
        }
        while (x.ofGate(0, 6) > 0) {
            x.yawn(0);
            step(x, "yawned");
        }
        x.pass(5);
        step(x, "passed");
        x.revoke(0, 3);
        x.trade(0, 1, 2);
        x.pass(20);
        step(x, "the next NIGHT");
    }

    private static void step(Lullabygate x, String what) {
        Check.same(what + ": sound", x.isSound(), true);
        Check.same(what + ": digest", x.digest(), due(x));
    }
}
