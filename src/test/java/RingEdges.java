/** Edges of HIDINGS, RINGS and WHOLE DREAMS in the terms 6, as the promises 17 and 19 ask for them. */
final class RingEdges {
    private RingEdges() {
    }

    static void run() {
        Edges.of(0, "each time that a SLEEPER brings a PART HIDDEN through a GATE (CAUGHT or SLIPPED)",
            RingEdges::whatIsAHiding);
        Edges.of(0, "with the NIGHT, kept for ever", RingEdges::keptForEver);
        Edges.of(0, "(40 in all at most; later ones are not kept", RingEdges::atMost40);
        Edges.of(0, "of one YAWN by rising PARTS).", RingEdges::the40thByRisingParts);
        Edges.of(0, "Two SLEEPERS are LINKED, if they have HIDINGS of PARTS of one DREAM", RingEdges::ofOneDream);
        Edges.of(0, "on NIGHTS that differ by 2 or less.", RingEdges::nightsThatDifferBy0To3);
        Edges.of(0, "all who are LINKED with it, or with one of these, and so on, with itself.",
            RingEdges::ringsFrom1To12);
        Edges.of(0, "A DREAM is WHOLE in a LAND, if it has PARTS", RingEdges::dreamsWithoutParts);
        Edges.of(0, "all of these are there: in the STORE, or in HEADS of SLEEPERS in that LAND.",
            RingEdges::allPartsAreThere);
        Edges.of(17, "8 the set of DREAMS that are WHOLE there", RingEdges::allPartsAreThere);
        Edges.of(19, "7 the set of its RING", RingEdges::ringsFrom1To12);
        Edges.of(19, "8 how many HIDINGS of it are kept", RingEdges::atMost40);
    }

    /** A GATE 0 as in Scene.openGate; the SLEEPERS k of LAND 0 have PARTS of these DREAMS. */
    private static Lullabygate dreamers(int[]... dreams) {
        Lullabygate x = Scene.openGate();
        for (int k = 0; k < dreams.length; k++) {
            x.sleeper(0, false, 9);
            for (int dream : dreams[k]) {
                x.part(k, dream, 0, 0);
            }
        }
        return x;
    }

    private static void whatIsAHiding() {
        Lullabygate x = dreamers(new int[] {0, 0});
        Scene.cross(x, 0, 0, 3);
        Check.same("DECLARED ones are none", x.ofSleeper(0, 8), 0);
        x.join(0, 0, 0);
        x.yawn(0);
        Check.same("one sent back makes none", x.ofSleeper(0, 8), 0);
        Scene.cross(x, 0, 0, 2);
        Check.same("one SLIPPED", x.ofSleeper(0, 8), 1);
        x.odds(0, 10);
        Scene.cross(x, 0, 0, 0);
        Check.same("two CAUGHT", x.ofSleeper(0, 8), 3);
        Scene.cross(x, 0, 0, 0);
        Check.same("none with an empty HEAD", x.ofSleeper(0, 8), 3);
        Check.same("in all", x.night(12), 3);
    }

    private static void keptForEver() {
        Lullabygate x = dreamers(new int[] {3}, new int[] {3});
        x.odds(0, 10);
        Scene.cross(x, 0, 0, 0);
        Scene.cross(x, 1, 0, 0);
        x.appeal(0);
        Scene.wake(x, 0, 0);
        Scene.toNight(x, 99);
        Check.same("HIDINGS of an AWAKE one", x.ofSleeper(0, 8), 1);
        Check.same("its RING", x.ofSleeper(0, 7), 3);
        Check.same("the other one's RING", x.ofSleeper(1, 7), 3);
        Check.same("in all", x.night(12), 2);
    }

    private static void atMost40() {
        Lullabygate x = dreamers(new int[] {0, 0, 0, 0, 0}, new int[] {0}, new int[] {0});
        for (int k = 1; k <= 7; k++) {
            Scene.cross(x, 0, 0, 0);
            Check.same("HIDINGS", x.night(12), 5 * k);
        }
        Scene.cross(x, 0, 0, 1);
        Check.same("39", x.night(12), 39);
        Scene.cross(x, 1, 0, 0);
        Check.same("40", x.night(12), 40);
        Scene.cross(x, 2, 0, 0);
        Scene.cross(x, 1, 0, 0);
        Check.same("40 still", x.night(12), 40);
        int[] kept = {39, 1, 0};
        int[] rings = {3, 3, 4};
        for (int k = 0; k < 3; k++) {
            Check.same("HIDINGS of " + k, x.ofSleeper(k, 8), kept[k]);
            Check.same("RING of " + k, x.ofSleeper(k, 7), rings[k]);
        }
        Check.same("it is sound", x.isSound(), true);
    }

    /** SLEEPER 3 has PART 8 of the DREAM 2 and PART 9 of the DREAM 1, of which one HIDING alone is kept. */
    private static void the40thByRisingParts() {
        Lullabygate x = dreamers(new int[] {0, 0, 0, 0, 0, 0}, new int[] {1}, new int[] {2}, new int[] {2, 1});
        Scene.cross(x, 1, 0, 0);
        Scene.cross(x, 2, 0, 0);
        for (int k = 0; k < 6; k++) {
            Scene.cross(x, 0, 0, 0);
        }
        Scene.cross(x, 0, 0, 62);
        Check.same("39", x.night(12), 39);
        Scene.cross(x, 3, 0, 0);
        Check.same("40", x.night(12), 40);
        Check.same("LINKED by the PART with the smaller number", x.ofSleeper(3, 7), 12);
        Check.same("not by the other one", x.ofSleeper(1, 7), 2);
    }

    private static void ofOneDream() {
        Lullabygate x = dreamers(new int[] {0}, new int[] {7}, new int[] {7, 0});
        Scene.cross(x, 0, 0, 0);
        Scene.cross(x, 1, 0, 0);
        Check.same("of two DREAMS", x.ofSleeper(0, 7), 1);
        Scene.cross(x, 2, 0, 4);
        Check.same("DREAM 0 HIDDEN, DREAM 7 DECLARED", x.ofSleeper(2, 7), 5);
        Check.same("DREAM 7 is not LINKED", x.ofSleeper(1, 7), 2);
        Scene.cross(x, 2, 0, 0);
        for (int k = 0; k < 3; k++) {
            Check.same("both HIDDEN link all, as " + k + " is asked", x.ofSleeper(k, 7), 7);
        }
        Lullabygate one = dreamers(new int[] {4}, new int[] {});
        Scene.cross(one, 0, 0, 0);
        one.sleeper(1, false, 9);
        one.give(0, 2);
        Scene.cross(one, 2, 0, 0);
        Check.same("one and the same PART", one.ofSleeper(0, 7), 5);
    }

    private static void nightsThatDifferBy0To3() {
        for (int nights = 0; nights <= 3; nights++) {
            Lullabygate x = dreamers(new int[] {5}, new int[] {5});
            x.pass(23);
            Scene.cross(x, 0, 0, 0);
            Scene.toNight(x, nights);
            Scene.cross(x, 1, 0, 0);
            int due = nights <= 2 ? 3 : 1;
            Check.same("by " + nights, x.ofSleeper(0, 7), due);
            Check.same("the other one by " + nights, x.ofSleeper(1, 7), due == 3 ? 3 : 2);
        }
        Lullabygate x = dreamers(new int[] {5}, new int[] {5}, new int[] {5});
        Scene.cross(x, 0, 0, 0);
        Scene.toNight(x, 2);
        Scene.cross(x, 1, 0, 0);
        Scene.toNight(x, 4);
        Scene.cross(x, 2, 0, 0);
        Check.same("by 4, with one between", x.ofSleeper(0, 7), 7);
    }

    private static void ringsFrom1To12() {
        Lullabygate x = Scene.openGate();
        for (int k = 0; k < 12; k++) {
            x.sleeper(0, false, 9);
            Check.same("itself alone", x.ofSleeper(k, 7), 1 << k);
        }
        // SLEEPER k and the next one have PARTS of one DREAM: a chain through all.
        for (int k = 0; k < 12; k++) {
            x.part(k, k % 8, 0, 0);
            x.part(k, (k + 1) % 8, 0, 0);
        }
        for (int k = 0; k < 12; k++) {
            Scene.cross(x, k, 0, 0);
            Check.same("all up to " + k, x.ofSleeper(0, 7), (2 << k) - 1);
            Check.same("all up to itself", x.ofSleeper(k, 7), (2 << k) - 1);
        }
    }

    private static void dreamsWithoutParts() {
        Lullabygate x = new Lullabygate();
        x.sleeper(0, false, 9);
        Check.same("no PARTS at all", x.ofLand(0, 8), 0);
        x.part(0, 7, 0, 0);
        Check.same("DREAM 7 alone", x.ofLand(0, 8), 128);
        x.part(0, 0, 0, 0);
        Check.same("DREAMS 0 and 7", x.ofLand(0, 8), 129);
        for (int land = 1; land <= 5; land++) {
            Check.same("nothing in LAND " + land, x.ofLand(land, 8), 0);
        }
    }

    private static void allPartsAreThere() {
        Lullabygate x = dreamers(new int[] {1}, new int[] {1}, new int[] {1});
        x.odds(0, 10);
        Check.same("all in HEADS here", x.ofLand(0, 8), 2);
        Scene.cross(x, 0, 0, 0);
        Check.same("one in the STORE there, here", x.ofLand(0, 8), 0);
        Check.same("one in the STORE there, there", x.ofLand(1, 8), 0);
        Scene.cross(x, 1, 0, 2);
        Check.same("one more in a HEAD there", x.ofLand(1, 8), 0);
        Scene.cross(x, 2, 0, 4);
        Check.same("all there", x.ofLand(1, 8), 2);
        x.join(2, 0, 0);
        Check.same("one of them in a QUEUE", x.ofLand(1, 8), 2);
        x.leave(2);
        Scene.wake(x, 2, 0);
        Check.same("one of them GONE", x.ofLand(1, 8), 0);
    }
}
