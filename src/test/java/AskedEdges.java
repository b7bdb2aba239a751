import java.math.BigInteger;
import java.util.ArrayList;
import java.util.List;

/** Edges of the promises 17 to 20, 23 and 28. */
final class AskedEdges {
    private static final Class<?> NO_SUCH = IndexOutOfBoundsException.class;
    private static final Class<?> BAD = IllegalArgumentException.class;

    private AskedEdges() {
    }

    static void run() {
        Edges.of(17, "3 NIGHTMARES that came in this NIGHT (as they count for QUOTA)", AskedEdges::nightmares);
        Edges.of(17, "4 DUTIES ever, 5 FINES ever (less what was paid back), 6 PARTS in its STORE",
            AskedEdges::dutiesFinesAndStores);
        Edges.of(17, "7 SLEEPERS in it (AWAKE ones do not count)", AskedEdges::sleepersInALand);
        Edges.of(17, "Returns that.", AskedEdges::emptyLand);
        Edges.of(17, "Throws IndexOutOfBoundsException if land is not 0 to 5", AskedEdges::ofLandOutside);
        Edges.of(17, "Throws IllegalArgumentException if what is not 0 to 8", AskedEdges::ofLandWhat);
        Edges.of(18, "2 1 if it is OPEN, otherwise 0, 3 ODDS, 4 WATCH, 5 1 if its GUARD DOZES, otherwise 0",
            AskedEdges::openAndDozing);
        Edges.of(18, "6 how many stand in its QUEUE, 7 the first one there (NONE)", AskedEdges::queueFrom0To12);
        Edges.of(18, "9 how many VERSES are REVOKED there", AskedEdges::revokedFrom0To97);
        Edges.of(18, "Returns that.", AskedEdges::emptyGate);
        Edges.of(18, "Throws IndexOutOfBoundsException if there is no such GATE", AskedEdges::ofGateOutside);
        Edges.of(18, "Throws IllegalArgumentException if what is not 0 to 9", AskedEdges::ofGateWhat);
        Edges.of(19, "2 0 AT REST, 1 in a QUEUE, 2 AWAKE, 3 the GATE of that QUEUE (NONE), 4 its place there (NONE)",
            AskedEdges::restQueueAwake);
        Edges.of(19, "5 the set of PARTS in its HEAD, 6 VERSE of its PASS (NONE)", AskedEdges::headAndPass);
        Edges.of(19, "Returns that.", AskedEdges::newSleeper);
        Edges.of(19, "Throws IndexOutOfBoundsException if there is no such SLEEPER", AskedEdges::ofSleeperOutside);
        Edges.of(19, "Throws IllegalArgumentException if what is not 0 to 8", AskedEdges::ofSleeperWhat);
        runParts();
        runTheWhole();
    }

    private static void runParts() {
        Edges.of(20, "4 the LAND where it is (in a STORE, or in a HEAD there; NONE, if it is GONE)",
            AskedEdges::whereAPartIs);
        Edges.of(20, "5 the SLEEPER in whose HEAD it is (NONE)", AskedEdges::whereAPartIs);
        Edges.of(20, "Returns that.", AskedEdges::newPart);
        Edges.of(20, "Throws IndexOutOfBoundsException if there is no such PART", AskedEdges::ofPartOutside);
        Edges.of(20, "Throws IllegalArgumentException if what is not 0 to 5", AskedEdges::ofPartWhat);
    }

    private static void runTheWhole() {
        Edges.of(23, "2 GATES, 3 SLEEPERS, 4 AWAKE ones, 5 PARTS", AskedEdges::countsFromNoneToAll);
        Edges.of(23, "6 to 10 those with the FATES 1 to 5, 11 GONE ones", AskedEdges::fatesOfGoneOnes);
        Edges.of(23, "12 HIDINGS kept, 13 numbers DRAWN ever, 14 YAWNS ever, 15 DUTIES of all LANDS, 16 FINES of all",
            AskedEdges::countsOfAllThatWas);
        Edges.of(23, "Returns that.", AskedEdges::emptyNight);
        Edges.of(23, "Throws IllegalArgumentException if what is not 0 to 16", AskedEdges::nightWhat);
        Edges.of(28, "A number d starts with 6007", AskedEdges::digestOfNothing);
        Edges.of(28, "which wraps around as a 64-bit integer", AskedEdges::digestWrapsAround);
        Edges.of(28, "night() of 0 to 16; LAND by LAND ofLand() of 0 to 8; GATE by GATE ofGate() of 2 to 9, wouldPay();"
            + " SLEEPER by SLEEPER ofSleeper() of 0 to 8; PART by PART ofPart() of 3 to 5;"
            + " LAND by LAND ARRIVAL from the LAND 0; the sum of ODDS of the BEST PLAN for a PROMISE of 20",
            AskedEdges::digestAlongARun);
        Edges.of(28, "for a PROMISE of 20", AskedEdges::digestOfPlansNear20);
        Edges.of(28, "Returns d.", AskedEdges::digestAlongARun);
    }

    private static void nightmares() {
        Lullabygate x = Scene.openGate();
        x.sleeper(0, false, 9);
        for (int k = 0; k < 7; k++) {
            x.part(0, 0, 0, 9);
        }
        Check.same("none", x.ofLand(1, 3), 0);
        Scene.cross(x, 0, 0, 0);
        Check.same("HIDDEN ones do not count", x.ofLand(1, 3), 0);
        Scene.cross(x, 0, 0, 0);
        Scene.cross(x, 0, 0, 127);
        Check.same("as many as the QUOTA", x.ofLand(1, 3), 5);
        x.trade(1, 0, 5);
        Check.same("more than the QUOTA then", x.ofLand(1, 3), 5);
        x.pass(24);
        Check.same("none on the next NIGHT", x.ofLand(1, 3), 0);
    }

    private static void dutiesFinesAndStores() {
        Lullabygate x = Scene.openGate();
        x.land(1, 50, 10);
        x.odds(0, 10);
        x.sleeper(0, false, 9);
        x.part(0, 0, 30, 0);
        x.part(0, 0, 10, 0);
        x.part(0, 0, 9, 0);
        Scene.cross(x, 0, 0, 1);
        int[] due = {10, 19, 2};
        for (int what = 4; what <= 6; what++) {
            Check.same("ofLand(1, " + what + ")", x.ofLand(1, what), due[what - 4]);
        }
        x.appeal(1);
        Check.same("less what was paid back", x.ofLand(1, 5), 9);
        Check.same("one in the STORE", x.ofLand(1, 6), 1);
        x.appeal(2);
        Check.same("less all", x.ofLand(1, 5), 0);
        Check.same("an empty STORE", x.ofLand(1, 6), 0);
        x.pass(48);
        Check.same("DUTIES ever", x.ofLand(1, 4), 10);
    }

    private static void sleepersInALand() {
        Lullabygate x = Scene.openGate();
        Check.same("none", x.ofLand(0, 7), 0);
        for (int k = 0; k < 11; k++) {
            x.sleeper(0, k > 5, 1);
        }
        Check.same("11", x.ofLand(0, 7), 11);
        x.join(0, 0, 0);
        Check.same("one in a QUEUE counts", x.ofLand(0, 7), 11);
        x.leave(0);
        Scene.wake(x, 0, 0);
        Check.same("the helper counts, the AWAKE one does not", x.ofLand(0, 7), 11);
        Scene.cross(x, 1, 0, 0);
        Check.same("one less here", x.ofLand(0, 7), 10);
        Check.same("one there", x.ofLand(1, 7), 1);
    }

    private static void emptyLand() {
        int[] due = {10, 20, 5, 0, 0, 0, 0, 0, 0};
        Lullabygate x = new Lullabygate();
        for (int land = 0; land <= 5; land++) {
            for (int what = 0; what <= 8; what++) {
                Check.same("ofLand(" + land + ", " + what + ")", x.ofLand(land, what), due[what]);
            }
        }
    }

    private static void ofLandOutside() {
        Lullabygate x = Scene.full();
        for (int what : new int[] {0, 8, 9, -1}) {
            Check.outside(x, "LAND, what " + what, 0, 5, NO_SUCH, land -> x.ofLand(land, what));
        }
    }

    private static void ofLandWhat() {
        Lullabygate x = Scene.full();
        for (int land = 0; land <= 5; land++) {
            int asked = land;
            Check.outside(x, "what", 0, 8, BAD, what -> x.ofLand(asked, what));
        }
    }

    private static void openAndDozing() {
        Lullabygate x = new Lullabygate();
        x.gate(0, 1, 1, 6);
        int[][] openOddsWatchDozes = {
            {0, 5, 0, 0}, {1, 5, 1, 0}, {1, 5, 2, 0}, {1, 5, 3, 0},
            {1, 5, 4, 0}, {1, 5, 5, 1}, {1, 5, 6, 1}, {0, 5, 0, 0}
        };
        for (int hour = 0; hour < 8; hour++) {
            for (int what = 2; what <= 5; what++) {
                Check.same("ofGate(0, " + what + ") at " + hour, x.ofGate(0, what), openOddsWatchDozes[hour][what - 2]);
            }
            x.pass(1);
        }
    }

    private static void queueFrom0To12() {
        Lullabygate x = Scene.openGate();
        Check.same("nobody", x.ofGate(0, 6), 0);
        Check.same("no first one", x.ofGate(0, 7), -1);
        for (int k = 0; k < 12; k++) {
            x.sleeper(0, k == 11, 9);
            x.join(k, 0, 0);
            Check.same("how many", x.ofGate(0, 6), k + 1);
            Check.same("the first one", x.ofGate(0, 7), k == 11 ? 11 : 0);
        }
        for (int k = 0; k < 12; k++) {
            x.leave(k);
        }
        Check.same("nobody any more", x.ofGate(0, 6), 0);
        Check.same("no first one any more", x.ofGate(0, 7), -1);
    }

    private static void revokedFrom0To97() {
        Lullabygate x = Scene.openGate();
        for (int verse = 0; verse <= 96; verse++) {
            Check.same("REVOKED", x.ofGate(0, 9), verse);
            x.revoke(0, verse);
        }
        Check.same("all", x.ofGate(0, 9), 97);
        x.revoke(0, 96);
        Check.same("all still", x.ofGate(0, 9), 97);
    }

    private static void emptyGate() {
        Lullabygate x = new Lullabygate();
        x.gate(5, 0, 23, 1);
        int[] due = {5, 0, 0, 5, 0, 0, 0, -1, 0, 0};
        for (int what = 0; what <= 9; what++) {
            Check.same("ofGate(0, " + what + ")", x.ofGate(0, what), due[what]);
        }
    }

    private static void ofGateOutside() {
        Lullabygate none = new Lullabygate();
        Check.noSuch(none, "GATE 0 of none", () -> none.ofGate(0, 0));
        Lullabygate x = Scene.full();
        for (int what : new int[] {0, 9, 10, -1}) {
            Check.outside(x, "GATE, what " + what, 0, 7, NO_SUCH, gate -> x.ofGate(gate, what));
        }
    }

    private static void ofGateWhat() {
        Lullabygate x = Scene.full();
        Check.outside(x, "what", 0, 9, BAD, what -> x.ofGate(0, what));
        Check.outside(x, "what", 0, 9, BAD, what -> x.ofGate(7, what));
    }

    private static void restQueueAwake() {
        Lullabygate x = Scene.openGate();
        x.gate(0, 1, 0, 24);
        x.sleeper(0, false, 1);
        int[][] due = {{0, -1, -1}, {1, 1, 0}, {2, -1, -1}};
        for (int step = 0; step < 3; step++) {
            for (int what = 2; what <= 4; what++) {
                Check.same("ofSleeper(0, " + what + ") at " + step, x.ofSleeper(0, what), due[step][what - 2]);
            }
            if (step == 0) {
                x.join(0, 1, 0);
            } else if (step == 1) {
                Scene.wake(x, 0, 1);
            }
        }
    }

    private static void headAndPass() {
        Lullabygate x = Scene.openGate();
        x.sleeper(0, false, 9);
        Check.same("an empty HEAD", x.ofSleeper(0, 5), 0);
        Check.same("no PASS", x.ofSleeper(0, 6), -1);
        x.part(0, 0, 0, 0);
        x.sing(0, 0, 0, 0);
        x.join(0, 0, 1);
        Check.same("the HEAD in a QUEUE", x.ofSleeper(0, 5), 1);
        Check.same("VERSE 0", x.ofSleeper(0, 6), 0);
        x.yawn(0);
        Check.same("the HEAD behind the GATE", x.ofSleeper(0, 5), 1);
        Check.same("no PASS behind the GATE", x.ofSleeper(0, 6), -1);
    }

    private static void newSleeper() {
        Lullabygate x = new Lullabygate();
        x.sleeper(5, true, 9);
        int[] due = {5, 9, 0, -1, -1, 0, -1, 1, 0};
        for (int what = 0; what <= 8; what++) {
            Check.same("ofSleeper(0, " + what + ")", x.ofSleeper(0, what), due[what]);
        }
    }

    private static void ofSleeperOutside() {
        Lullabygate none = new Lullabygate();
        Check.noSuch(none, "SLEEPER 0 of none", () -> none.ofSleeper(0, 0));
        Lullabygate x = Scene.full();
        for (int what : new int[] {0, 8, 9, -1}) {
            Check.outside(x, "SLEEPER, what " + what, 0, 11, NO_SUCH, sleeper -> x.ofSleeper(sleeper, what));
        }
    }

    private static void ofSleeperWhat() {
        Lullabygate x = Scene.full();
        Check.outside(x, "what", 0, 8, BAD, what -> x.ofSleeper(0, what));
        Check.outside(x, "what", 0, 8, BAD, what -> x.ofSleeper(11, what));
    }

    private static void whereAPartIs() {
        Lullabygate x = Scene.openGate();
        x.odds(0, 10);
        x.sleeper(0, false, 1);
        x.part(0, 0, 0, 0);
        x.part(0, 0, 0, 0);
        int[][] landAndHead = {{0, 0}, {1, -1}, {1, 0}, {-1, -1}};
        for (int step = 0; step < 4; step++) {
            Check.same("LAND at " + step, x.ofPart(0, 4), landAndHead[step][0]);
            Check.same("HEAD at " + step, x.ofPart(0, 5), landAndHead[step][1]);
            if (step == 0) {
                Scene.cross(x, 0, 0, 0);
            } else if (step == 1) {
                x.appeal(0);
            } else if (step == 2) {
                Scene.wake(x, 0, 0);
            }
        }
        Check.same("what was in a STORE stays there", x.ofPart(1, 4), 1);
    }

    private static void newPart() {
        Lullabygate x = new Lullabygate();
        x.sleeper(5, true, 9);
        x.part(0, 7, 99, 9);
        int[] due = {7, 99, 9, 0, 5, 0};
        for (int what = 0; what <= 5; what++) {
            Check.same("ofPart(0, " + what + ")", x.ofPart(0, what), due[what]);
        }
    }

    private static void ofPartOutside() {
        Lullabygate none = new Lullabygate();
        Check.noSuch(none, "PART 0 of none", () -> none.ofPart(0, 0));
        Lullabygate x = Scene.full();
        for (int what : new int[] {0, 5, 6, -1}) {
            Check.outside(x, "PART, what " + what, 0, 23, NO_SUCH, part -> x.ofPart(part, what));
        }
    }

    private static void ofPartWhat() {
        Lullabygate x = Scene.full();
        Check.outside(x, "what", 0, 5, BAD, what -> x.ofPart(0, what));
        Check.outside(x, "what", 0, 5, BAD, what -> x.ofPart(23, what));
    }

    private static void countsFromNoneToAll() {
        int[] none = {0, 0, 0, 0};
        int[] all = {8, 12, 0, 24};
        for (int k = 0; k < 4; k++) {
            Check.same("none: night(" + (k + 2) + ")", new Lullabygate().night(k + 2), none[k]);
            Check.same("all: night(" + (k + 2) + ")", Scene.full().night(k + 2), all[k]);
        }
        Lullabygate x = Scene.openGate();
        for (int k = 0; k < 12; k++) {
            x.sleeper(0, k == 11, k == 11 ? 9 : 1);
        }
        for (int k = 0; k < 12; k++) {
            x.join(k, 0, 0);
        }
        x.yawn(0);
        Check.same("all but one are AWAKE", x.night(4), 11);
    }

    private static void fatesOfGoneOnes() {
        Lullabygate x = Scene.openGate();
        x.sleeper(0, false, 9);
        x.part(0, 0, 21, 0);
        x.part(0, 0, 0, 0);
        Scene.cross(x, 0, 0, 1);
        x.part(0, 0, 0, 0);
        Scene.wake(x, 0, 0);
        int[] due = {1, 0, 0, 1, 0, 3};
        for (int what = 6; what <= 11; what++) {
            Check.same("night(" + what + ")", x.night(what), due[what - 6]);
        }
    }

    private static void countsOfAllThatWas() {
        Lullabygate x = Scene.openGate();
        x.gate(0, 5, 0, 24);
        x.odds(1, 10);
        x.land(0, 50, 0);
        x.land(1, 50, 0);
        x.sleeper(0, false, 9);
        x.part(0, 0, 10, 0);
        x.part(0, 0, 99, 0);
        Scene.cross(x, 0, 0, 3);
        Scene.cross(x, 0, 0, 2);
        Scene.cross(x, 0, 1, 2);
        Check.same("HIDINGS of all", x.night(12), 2);
        Check.same("DUTIES of all", x.night(15), 54 + 49 + 7);
        Check.same("FINES of all", x.night(16), 10);
        x.join(0, 1, 2);
        x.yawn(1);
        x.relieve(1);
        x.pass(48);
        Check.same("YAWNS ever", x.night(14), 4);
        Check.same("numbers DRAWN ever", x.night(13), 3);
        x.appeal(0);
        Check.same("FINES less what was paid back", x.night(16), 0);
        Check.same("HIDINGS kept", x.night(12), 2);
    }

    private static void emptyNight() {
        Lullabygate x = new Lullabygate();
        for (int what = 0; what <= 16; what++) {
            Check.same("night(" + what + ")", x.night(what), 0);
        }
    }

    private static void nightWhat() {
        Lullabygate none = new Lullabygate();
        Check.outside(none, "what", 0, 16, BAD, what -> none.night(what));
        Lullabygate x = Scene.full();
        Check.outside(x, "what", 0, 16, BAD, what -> x.night(what));
    }

    /** The numbers that the document names for a new object, one by one. */
    private static List<Integer> numbersOfNothing() {
        List<Integer> numbers = new ArrayList<>();
        for (int what = 0; what <= 16; what++) {
            numbers.add(0);
        }
        for (int land = 0; land <= 5; land++) {
            numbers.addAll(List.of(10, 20, 5, 0, 0, 0, 0, 0, 0));
        }
        numbers.addAll(List.of(0, -1, -1, -1, -1, -1, -1, 1));
        return numbers;
    }

    private static void digestOfNothing() {
        long d = 6007;
        for (int v : numbersOfNothing()) {
            d = d * 31 + v;
        }
        Check.same("the digest of a new object", new Lullabygate().digest(), d);
    }

    private static void digestWrapsAround() {
        BigInteger d = BigInteger.valueOf(6007);
        for (int v : numbersOfNothing()) {
            d = d.multiply(BigInteger.valueOf(31)).add(BigInteger.valueOf(v));
        }
        Check.same("it is far above 64 bits", d.bitLength() > 64, true);
        Check.same("what 64 bits leave of it", new Lullabygate().digest(), d.longValue());
    }

    /** HIDDEN WORTH of 19, 20 and 21 is where a PROMISE of 19, 20 or 21 makes a difference. */
    private static void digestOfPlansNear20() {
        for (int worth = 19; worth <= 21; worth++) {
            Lullabygate x = Scene.hiders(worth);
            Check.same("the sum for 20 of " + worth, x.plan(20, -1), worth < 20 ? -1 : 10);
            Check.same("the digest with " + worth, x.digest(), DigestTest.due(x));
        }
    }

    private static void digestAlongARun() {
        Lullabygate x = Scene.full();
        Check.same("of a full night", x.digest(), DigestTest.due(x));
        x.sing(0, 0, 0, 0);
        x.yawn(0);
        Check.same("behind a YAWN", x.digest(), DigestTest.due(x));
        x.pass(48);
        Check.same("behind 48 HOURS", x.digest(), DigestTest.due(x));
        Check.same("asked twice", x.digest(), x.digest());
    }
}
