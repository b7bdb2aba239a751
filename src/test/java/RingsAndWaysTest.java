/** The RINGS of promise 19, the HIDINGS that are kept, and promise 24. */
final class RingsAndWaysTest {
    private RingsAndWaysTest() {
    }

    static void run() {
        promise19Rings();
        promise19RingsByNights();
        promise19RingsOfTheAwake();
        promise19MostHidings();
        promise24Way();
        promise24WayWithin72();
        promise24WayRefuses();
    }

    /** Each SLEEPER k has the PARTS of the DREAMS in that row, numbered on. */
    private static Lullabygate dreamers(int[][] dreams) {
        Lullabygate x = Scene.openGate();
        for (int k = 0; k < dreams.length; k++) {
            x.sleeper(0, false, 9);
            for (int dream : dreams[k]) {
                x.part(k, dream, 1, 0);
            }
        }
        return x;
    }

    private static void promise19Rings() {
        Lullabygate x = dreamers(new int[][] {{0}, {0, 1}, {1, 2}, {3}, {2}, {3, 4}, {4}});
        for (int k = 0; k < 7; k++) {
            Scene.cross(x, k, 0, k == 6 ? x.ofSleeper(k, 5) : 0);
        }
        int[] due = {23, 23, 23, 40, 23, 40, 64};
        for (int k = 0; k < 7; k++) {
            Check.same("RING of " + k, x.ofSleeper(k, 7), due[k]);
        }
        Scene.cross(x, 6, 0, 0);
        Check.same("the RING that was joined", x.ofSleeper(3, 7), 104);
        Check.same("HIDINGS of 1", x.ofSleeper(1, 8), 2);
    }

    private static void promise19RingsByNights() {
        Lullabygate x = dreamers(new int[][] {{5}, {5}, {5}, {5}});
        Scene.cross(x, 0, 0, 0);
        x.pass(48);
        Scene.cross(x, 1, 0, 0);
        Check.same("NIGHTS that differ by 2", x.ofSleeper(0, 7), 3);
        x.pass(48);
        x.pass(24);
        Scene.cross(x, 2, 0, 0);
        Check.same("NIGHTS that differ by 3", x.ofSleeper(2, 7), 4);
        x.pass(24);
        Scene.cross(x, 3, 0, 0);
        Check.same("by 1", x.ofSleeper(2, 7), 12);
        Check.same("the others stay", x.ofSleeper(0, 7), 3);
        Scene.cross(x, 1, 0, 0);
        Check.same("a later HIDING joins two RINGS", x.ofSleeper(0, 7), 15);
    }

    private static void promise19RingsOfTheAwake() {
        Lullabygate x = dreamers(new int[][] {{5}, {5}, {}});
        Scene.cross(x, 0, 0, 0);
        x.give(1, 2);
        Scene.cross(x, 2, 0, 0);
        Check.same("who had the PART before is not in it", x.ofSleeper(1, 7), 2);
        Check.same("who brought it is", x.ofSleeper(0, 7), 5);
        Scene.wake(x, 2, 0);
        Check.same("AWAKE ones stay in RINGS", x.ofSleeper(2, 7), 5);
        Check.same("and their HIDINGS are kept", x.ofSleeper(2, 8), 1);
    }

    private static void promise19MostHidings() {
        Lullabygate x = dreamers(new int[][] {{0, 0, 0}, {0, 1, 0}, {1}});
        for (int k = 0; k < 13; k++) {
            Scene.cross(x, 0, 0, 0);
        }
        Check.same("39 HIDINGS", x.night(12), 39);
        Scene.cross(x, 1, 0, 0);
        Check.same("40 HIDINGS", x.night(12), 40);
        Check.same("the first PART of that YAWN", x.ofSleeper(1, 8), 1);
        Check.same("LINKED by that one", x.ofSleeper(0, 7), 3);
        Scene.cross(x, 2, 0, 0);
        Check.same("later ones are not kept", x.night(12), 40);
        Check.same("of the last SLEEPER", x.ofSleeper(2, 8), 0);
        Check.same("and link nobody", x.ofSleeper(2, 7), 4);
        Check.same("of the first SLEEPER", x.ofSleeper(0, 8), 39);
        Check.same("sound", x.isSound(), true);
    }

    private static void promise24Way() {
        Lullabygate x = new Lullabygate();
        Check.same("the same one", x.way(3, 3), 0);
        Check.same("without GATES", x.way(0, 1), Scene.NONE);
        x.gate(0, 1, 3, 2);
        x.gate(1, 2, 4, 1);
        x.gate(2, 3, 0, 24);
        x.gate(0, 3, 20, 1);
        Check.same("waits for 3", x.way(0, 1), 4);
        Check.same("goes on at once", x.way(0, 2), 5);
        Check.same("and once more", x.way(0, 3), 6);
        Check.same("the other way round", x.way(3, 0), 21);
        Check.same("at 5 it is too late for 1 and 0, so by 3 and 0", x.way(2, 0), 21);
        Check.same("one HOUR", x.way(2, 3), 1);
        Check.same("from a LAND without GATES", x.way(4, 0), Scene.NONE);
        Check.same("to it", x.way(0, 4), Scene.NONE);
        x.pass(4);
        Check.same("OPEN just now", x.way(0, 1), 1);
        Check.same("too late for the next one", x.way(1, 3), 2);
        Check.same("now 0 to 3 at 20", x.way(0, 3), 17);
        Check.same("and on to 2", x.way(0, 2), 18);
        Check.same("nothing has changed", x.night(1), 4);
    }

    /** GATES in a line, of which each opens an HOUR ahead of the one before it. */
    private static void promise24WayWithin72() {
        for (int first = 0; first <= 1; first++) {
            Lullabygate x = new Lullabygate();
            x.gate(0, 1, 2 + first, 1);
            x.gate(1, 2, 1 + first, 1);
            x.gate(2, 3, first, 1);
            x.pass(4);
            // Begun at 2 on the next NIGHT, at 1 on the one behind it, at 0 on the third: 22 + 23 + 23 and one HOUR.
            Check.same("three NIGHTS", x.way(0, 3), 69 + first);
        }
        Lullabygate x = new Lullabygate();
        x.gate(0, 1, 23, 1);
        x.gate(1, 2, 23, 1);
        x.gate(2, 3, 23, 1);
        Check.same("72 HOURS", x.way(0, 3), 72);
        x.gate(3, 4, 0, 24);
        Check.same("73 HOURS", x.way(0, 4), Scene.NONE);
        x.pass(1);
        Check.same("71 HOURS", x.way(0, 3), 71);
        Check.same("72 HOURS at the end", x.way(0, 4), 72);
        x.pass(23);
        Check.same("from the next NIGHT on", x.way(0, 3), 72);
    }

    private static void promise24WayRefuses() {
        Lullabygate x = Scene.openGate();
        for (int land : new int[] {-1, 6, Scene.BIG, Scene.SMALL}) {
            Check.noSuch(x, "way from " + land, () -> x.way(land, 0));
            Check.noSuch(x, "way to " + land, () -> x.way(0, land));
            Check.noSuch(x, "way of " + land, () -> x.way(land, land));
        }
    }
}
