/** Small beginnings that many tests share. */
final class Scene {
    static final int NONE = -1;
    static final int BIG = Integer.MAX_VALUE;
    static final int SMALL = Integer.MIN_VALUE;

    private Scene() {
    }

    /** A GATE 0 between the LANDS 0 and 1 that is always OPEN, and whose GUARD searches nobody. */
    static Lullabygate openGate() {
        Lullabygate x = new Lullabygate();
        x.gate(0, 1, 0, 24);
        x.odds(0, 0);
        return x;
    }

    static int rightVerse(int sleeper, int gate, int night) {
        return (13 * sleeper + 29 * gate + 7 * night) % 97;
    }

    /** Gives the RIGHT PASS for this NIGHT. */
    static void singRight(Lullabygate x, int sleeper, int gate) {
        x.sing(sleeper, gate, x.night(0), rightVerse(sleeper, gate, x.night(0)));
    }

    /** Brings a SLEEPER through a GATE whose QUEUE is empty; answers what the YAWN answers. */
    static int cross(Lullabygate x, int sleeper, int gate, int declares) {
        singRight(x, sleeper, gate);
        x.join(sleeper, gate, declares);
        return x.yawn(gate);
    }

    /** Makes one who is no BABY AWAKE in an empty QUEUE: a new BABY steps in ahead again and again. */
    static void wake(Lullabygate x, int sleeper, int gate) {
        int helper = x.sleeper(x.ofSleeper(sleeper, 0), true, 9);
        for (int patience = x.ofSleeper(sleeper, 1); patience > 0; patience--) {
            x.join(helper, gate, 0);
            if (x.ofSleeper(sleeper, 2) == 0) {
                x.join(sleeper, gate, 0);
            }
            x.yawn(gate);
        }
    }

    /** GATES between the LANDS 0 and 1, each with one in its QUEUE who hides that WORTH. */
    static Lullabygate hiders(int... worths) {
        Lullabygate x = new Lullabygate();
        for (int k = 0; k < worths.length; k++) {
            x.gate(0, 1, k, 1);
            x.sleeper(0, false, 9);
            x.part(k, 0, worths[k], 0);
            x.join(k, k, 0);
        }
        return x;
    }

    /** All GATES, SLEEPERS and PARTS that there may be; the SLEEPERS 0, 1 and 2 stand at GATE 0 and hide all. */
    static Lullabygate full() {
        Lullabygate x = new Lullabygate();
        for (int k = 0; k < 8; k++) {
            x.gate(0, 1, 0, 24);
        }
        for (int k = 0; k < 12; k++) {
            x.sleeper(0, false, 9);
        }
        for (int k = 0; k < 24; k++) {
            x.part(k % 12, k % 8, 4 * k, k % 10);
        }
        for (int k = 0; k < 3; k++) {
            x.join(k, 0, 0);
        }
        return x;
    }

    /** Lets NIGHTS go by until that one begins. */
    static void toNight(Lullabygate x, int night) {
        while (x.night(0) < night) {
            x.pass(24);
        }
    }

    /** Lets HOURS go by until it is that one. */
    static void toHour(Lullabygate x, int hour) {
        while (x.night(1) != hour) {
            x.pass(1);
        }
    }

    /** What the face answers beside what the digest holds. */
    static String restOfTheFace(Lullabygate x) {
        StringBuilder all = new StringBuilder();
        for (int g = 0; g < x.night(2); g++) {
            all.append(x.ofGate(g, 0)).append(x.ofGate(g, 1)).append(x.queue(g)).append(x.plan(20, g));
            for (int s = 0; s < x.night(3); s++) {
                all.append(x.isGood(s, g));
            }
        }
        for (int from = 1; from < 6; from++) {
            for (int to = 0; to < 6; to++) {
                all.append(' ').append(x.way(from, to));
            }
        }
        return all.toString();
    }
}
