/** Edges of the terms 3, and of the promises 10, 11 and 21. */
final class PassEdges {
    private static final Class<?> NO_SUCH = IndexOutOfBoundsException.class;
    private static final Class<?> BAD = IllegalArgumentException.class;

    private PassEdges() {
    }

    static void run() {
        Edges.of(0, "A PASS is for a GATE and a NIGHT, with a VERSE (0 to 96).", PassEdges::versesFrom0To96);
        Edges.of(0, "is (13 * SLEEPER + 29 * GATE + 7 * NIGHT) modulo 97.", PassEdges::rightVerseWrapsAround);
        Edges.of(0, "A PASS is GOOD at its GATE", PassEdges::goodAtItsGateAlone);
        Edges.of(0, "on its NIGHT", PassEdges::goodOnItsNightAlone);
        Edges.of(0, "if its VERSE is RIGHT and not REVOKED there", PassEdges::rightAndNotRevoked);
        Edges.of(0, "with a GUARD who DOZES, if its VERSE is RIGHT, or differs from that by 1",
            PassEdges::differsBy1WithDozing);
        Edges.of(0, "(as numbers)", PassEdges::differsAsNumbers);
        Edges.of(0, "REVOKED or not", PassEdges::revokedWithDozing);
        Edges.of(0, "it is REVOKED there at once", PassEdges::revokedAtOnce);
        Edges.of(0, "As an HOUR begins, it is so at each GATE that has a LAND together with a GATE",
            PassEdges::spreadsToGatesWithALandTogether);
        Edges.of(0, "where it was REVOKED as that HOUR began.", PassEdges::spreadsByOneGateAnHour);
        runPromises();
    }

    private static void runPromises() {
        Edges.of(10, "(in the place of one that it has)", PassEdges::inThePlaceOfOne);
        Edges.of(10, "Returns the RIGHT VERSE.", PassEdges::rightVerseWrapsAround);
        Edges.of(10, "Throws IndexOutOfBoundsException if there is no such SLEEPER, or GATE", PassEdges::singOutside);
        Edges.of(10, "Throws IllegalArgumentException if night is not NIGHT to 99", PassEdges::singForNights);
        Edges.of(10, "or verse not 0 to 96", PassEdges::versesFrom0To96);
        Edges.of(11, "Returns whether it was not REVOKED there.", PassEdges::whetherItWasNotRevoked);
        Edges.of(11, "Throws IndexOutOfBoundsException if there is no such GATE", PassEdges::revokeOutside);
        Edges.of(11, "Throws IllegalArgumentException if verse is not 0 to 96", PassEdges::revokeVerses);
        Edges.of(21, "Returns whether its PASS is GOOD there now.", PassEdges::goodNow);
        Edges.of(21, "Throws IndexOutOfBoundsException if there is no such SLEEPER, or GATE",
            PassEdges::isGoodOutside);
    }

    /** A GATE 0 and one SLEEPER, with a WATCH of 5. */
    private static Lullabygate dozing() {
        Lullabygate x = Scene.openGate();
        x.sleeper(0, false, 9);
        x.pass(5);
        return x;
    }

    private static boolean isGoodWith(Lullabygate x, int sleeper, int gate, int verse) {
        x.sing(sleeper, gate, x.night(0), verse);
        return x.isGood(sleeper, gate);
    }

    private static void versesFrom0To96() {
        Lullabygate x = Scene.openGate();
        x.sleeper(0, false, 9);
        x.sing(0, 0, 0, 0);
        Check.same("the least", x.ofSleeper(0, 6), 0);
        x.sing(0, 0, 0, 96);
        Check.same("the greatest", x.ofSleeper(0, 6), 96);
        Check.outside(x, "VERSE", 0, 96, BAD, verse -> x.sing(0, 0, 0, verse));
        Check.same("the PASS stays", x.ofSleeper(0, 6), 96);
    }

    private static void rightVerseWrapsAround() {
        Lullabygate x = Scene.full();
        Check.same("0", x.sing(0, 0, 0, 5), 0);
        Check.same("26 + 70", x.sing(2, 0, 10, 5), 96);
        Check.same("26 + 29 + 42 is 97", x.sing(2, 1, 6, 5), 0);
        Check.same("13 + 29 + 56 is 98", x.sing(1, 1, 8, 5), 1);
        Check.same("143 + 203 + 693 is 10 * 97 + 69", x.sing(11, 7, 99, 5), 69);
    }

    private static void goodAtItsGateAlone() {
        Lullabygate x = Scene.openGate();
        x.gate(0, 1, 0, 24);
        x.sleeper(0, false, 9);
        x.sing(0, 0, 0, 29);
        Check.same("the RIGHT VERSE of another GATE, there", x.isGood(0, 1), false);
        Check.same("here", x.isGood(0, 0), false);
        x.sing(0, 1, 0, 29);
        Check.same("the RIGHT VERSE of this GATE", x.isGood(0, 1), true);
        Check.same("at the other one", x.isGood(0, 0), false);
    }

    private static void goodOnItsNightAlone() {
        Lullabygate x = Scene.openGate();
        x.sleeper(0, false, 9);
        x.sing(0, 0, 1, 7);
        x.pass(23);
        x.relieve(0);
        Check.same("the last HOUR ahead of it", x.isGood(0, 0), false);
        x.pass(1);
        Check.same("its first HOUR", x.isGood(0, 0), true);
        x.pass(23);
        x.relieve(0);
        Check.same("its last HOUR", x.isGood(0, 0), true);
        x.pass(1);
        Check.same("the HOUR behind it", x.isGood(0, 0), false);
        Scene.toNight(x, 99);
        x.relieve(0);
        Check.same("on the last NIGHT", isGoodWith(x, 0, 0, 693 % 97), true);
    }

    private static void rightAndNotRevoked() {
        Lullabygate x = Scene.openGate();
        x.sleeper(0, false, 9);
        x.sleeper(0, false, 9);
        for (int verse = 0; verse <= 96; verse++) {
            Check.same("VERSE " + verse, isGoodWith(x, 1, 0, verse), verse == 13);
        }
        x.sing(1, 0, 0, 13);
        x.revoke(0, 12);
        x.revoke(0, 14);
        Check.same("others are REVOKED", x.isGood(1, 0), true);
        x.revoke(0, 13);
        Check.same("it is REVOKED", x.isGood(1, 0), false);
    }

    private static void differsBy1WithDozing() {
        Lullabygate x = Scene.openGate();
        x.sleeper(0, false, 9);
        x.sleeper(0, false, 9);
        x.pass(4);
        Check.same("1 less, with a WATCH of 4", isGoodWith(x, 1, 0, 12), false);
        Check.same("1 more, with a WATCH of 4", isGoodWith(x, 1, 0, 14), false);
        x.pass(1);
        for (int verse = 0; verse <= 96; verse++) {
            Check.same("VERSE " + verse, isGoodWith(x, 1, 0, verse), verse >= 12 && verse <= 14);
        }
        x.relieve(0);
        Check.same("1 more, as the GUARD is RELIEVED", isGoodWith(x, 1, 0, 14), false);
    }

    private static void differsAsNumbers() {
        Lullabygate least = dozing();
        Check.same("96 where 0 is RIGHT", isGoodWith(least, 0, 0, 96), false);
        Check.same("1 where 0 is RIGHT", isGoodWith(least, 0, 0, 1), true);
        Check.same("2 where 0 is RIGHT", isGoodWith(least, 0, 0, 2), false);
        Lullabygate greatest = Scene.openGate();
        for (int k = 0; k < 3; k++) {
            greatest.sleeper(0, false, 9);
        }
        Scene.toNight(greatest, 10);
        Check.same("0 where 96 is RIGHT", isGoodWith(greatest, 2, 0, 0), false);
        Check.same("95 where 96 is RIGHT", isGoodWith(greatest, 2, 0, 95), true);
        Check.same("96 where 96 is RIGHT", isGoodWith(greatest, 2, 0, 96), true);
    }

    private static void revokedWithDozing() {
        Lullabygate x = dozing();
        x.revoke(0, 0);
        x.revoke(0, 1);
        Check.same("RIGHT and REVOKED", isGoodWith(x, 0, 0, 0), true);
        Check.same("1 more and REVOKED", isGoodWith(x, 0, 0, 1), true);
        x.relieve(0);
        Check.same("RIGHT and REVOKED, as the GUARD is RELIEVED", isGoodWith(x, 0, 0, 0), false);
    }

    private static void revokedAtOnce() {
        Lullabygate x = Scene.openGate();
        x.gate(0, 1, 0, 24);
        x.sleeper(0, false, 9);
        x.sing(0, 0, 0, 0);
        Check.same("GOOD", x.isGood(0, 0), true);
        x.revoke(0, 0);
        Check.same("not GOOD in the same HOUR", x.isGood(0, 0), false);
        Check.same("REVOKED here", x.ofGate(0, 9), 1);
        Check.same("not yet there", x.ofGate(1, 9), 0);
    }

    private static void spreadsToGatesWithALandTogether() {
        int[][] landsAndSpread = {{0, 1, 1}, {1, 0, 1}, {0, 2, 1}, {2, 0, 1}, {1, 5, 1}, {5, 1, 1}, {2, 3, 0}};
        Lullabygate x = Scene.openGate();
        for (int[] g : landsAndSpread) {
            x.gate(g[0], g[1], 12, 1);
        }
        x.revoke(0, 0);
        x.revoke(0, 96);
        x.pass(1);
        for (int k = 0; k < landsAndSpread.length; k++) {
            int[] g = landsAndSpread[k];
            Check.same("a GATE of " + g[0] + " and " + g[1], x.ofGate(k + 1, 9), 2 * g[2]);
        }
        Check.same("at the GATE itself", x.ofGate(0, 9), 2);
    }

    /** A line of five GATES: in rising and in falling numbers alike, no VERSE goes two GATES in one HOUR. */
    private static void spreadsByOneGateAnHour() {
        for (int first = 0; first <= 4; first += 4) {
            Lullabygate x = new Lullabygate();
            for (int k = 0; k < 5; k++) {
                x.gate(k, k + 1, 0, 24);
            }
            x.revoke(first, 50);
            for (int hour = 0; hour <= 5; hour++) {
                for (int k = 0; k < 5; k++) {
                    boolean isThere = Math.abs(k - first) <= hour;
                    Check.same("from " + first + " to " + k + " at " + hour, x.ofGate(k, 9), isThere ? 1 : 0);
                }
                x.pass(1);
            }
        }
    }

    private static void inThePlaceOfOne() {
        Lullabygate x = Scene.openGate();
        x.gate(0, 1, 0, 24);
        x.sleeper(0, false, 9);
        x.sing(0, 0, 0, 0);
        x.sing(0, 1, 0, 29);
        Check.same("the first one is gone", x.isGood(0, 0), false);
        Check.same("the second one is there", x.isGood(0, 1), true);
        x.sing(0, 1, 5, 29);
        Check.same("the second one is gone too", x.isGood(0, 1), false);
    }

    private static void singOutside() {
        Lullabygate x = new Lullabygate();
        x.gate(0, 1, 0, 24);
        Check.noSuch(x, "SLEEPER 0 of none", () -> x.sing(0, 0, 0, 0));
        Lullabygate y = new Lullabygate();
        y.sleeper(0, false, 9);
        Check.noSuch(y, "GATE 0 of none", () -> y.sing(0, 0, 0, 0));
        Lullabygate full = Scene.full();
        Check.outside(full, "SLEEPER", 0, 11, NO_SUCH, sleeper -> full.sing(sleeper, 0, 0, 0));
        Check.outside(full, "GATE", 0, 7, NO_SUCH, gate -> full.sing(0, gate, 0, 0));
        Check.same("the last ones", full.sing(11, 7, 0, 0), (143 + 203) % 97);
    }

    private static void singForNights() {
        Lullabygate x = Scene.openGate();
        x.sleeper(0, false, 9);
        Check.same("the first NIGHT", x.sing(0, 0, 0, 0), 0);
        Check.same("the last NIGHT", x.sing(0, 0, 99, 0), 693 % 97);
        Check.outside(x, "NIGHT", 0, 99, BAD, night -> x.sing(0, 0, night, 0));
        x.pass(48);
        Check.outside(x, "NIGHT", 2, 99, BAD, night -> x.sing(0, 0, night, 0));
        Check.same("this NIGHT", x.sing(0, 0, 2, 0), 14);
        Scene.toNight(x, 99);
        Check.same("this NIGHT, the last one", x.sing(0, 0, 99, 0), 693 % 97);
        Check.outside(x, "NIGHT", 99, 99, BAD, night -> x.sing(0, 0, night, 0));
    }

    private static void whetherItWasNotRevoked() {
        Lullabygate x = Scene.openGate();
        x.gate(1, 2, 0, 24);
        Check.same("it was not", x.revoke(0, 63), true);
        Check.same("it was", x.revoke(0, 63), false);
        Check.same("it was not at the other GATE", x.revoke(1, 64), true);
        x.pass(1);
        Check.same("it was, as it had spread", x.revoke(1, 63), false);
        Check.same("it was, as it had spread to here", x.revoke(0, 64), false);
        for (int verse = 0; verse <= 96; verse++) {
            Check.same("VERSE " + verse, x.revoke(0, verse), verse != 63 && verse != 64);
        }
        Check.same("all VERSES", x.ofGate(0, 9), 97);
    }

    private static void revokeOutside() {
        Lullabygate x = new Lullabygate();
        Check.noSuch(x, "GATE 0 of none", () -> x.revoke(0, 0));
        x.gate(0, 1, 0, 24);
        Check.outside(x, "GATE", 0, 0, NO_SUCH, gate -> x.revoke(gate, 0));
        Lullabygate full = Scene.full();
        Check.outside(full, "GATE", 0, 7, NO_SUCH, gate -> full.revoke(gate, 0));
        Check.same("the last GATE", full.revoke(7, 0), true);
    }

    private static void revokeVerses() {
        Lullabygate x = Scene.openGate();
        Check.same("the least", x.revoke(0, 0), true);
        Check.same("the greatest", x.revoke(0, 96), true);
        Check.outside(x, "VERSE", 0, 96, BAD, verse -> x.revoke(0, verse));
        Check.same("two", x.ofGate(0, 9), 2);
    }

    private static void goodNow() {
        Lullabygate x = new Lullabygate();
        x.gate(0, 1, 3, 1);
        x.sleeper(5, false, 1);
        Check.same("without a PASS", x.isGood(0, 0), false);
        x.sing(0, 0, 0, 0);
        Check.same("far away, at a GATE that is not OPEN", x.isGood(0, 0), true);
        Scene.cross(x, x.sleeper(0, false, 9), x.gate(0, 1, 0, 24), 0);
        Check.same("the PASS that was shown is gone", x.isGood(1, 1), false);
    }

    private static void isGoodOutside() {
        Lullabygate x = new Lullabygate();
        x.gate(0, 1, 0, 24);
        Check.noSuch(x, "SLEEPER 0 of none", () -> x.isGood(0, 0));
        Lullabygate y = new Lullabygate();
        y.sleeper(0, false, 9);
        Check.noSuch(y, "GATE 0 of none", () -> y.isGood(0, 0));
        Lullabygate full = Scene.full();
        Check.outside(full, "SLEEPER", 0, 11, NO_SUCH, sleeper -> full.isGood(sleeper, 0));
        Check.outside(full, "GATE", 0, 7, NO_SUCH, gate -> full.isGood(0, gate));
        Check.same("the last ones", full.isGood(11, 7), false);
    }
}
