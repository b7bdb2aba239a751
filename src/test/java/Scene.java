/** Small beginnings that many tests share. */
final class Scene {
    static final int NONE = -1;
    static final int BIG = Integer.MAX_VALUE;
    static final int SMALL = Integer.MIN_VALUE;

    private Scene() {
    }

    /** A GATE 0 between the LANDS 0 and 1 that is always OPEN, and whose GUARD searches nobody. */
    static Lullabygate openGate() {
        Lullabygate x = new Lullabygate();
        x.gate(0, 1, 0, 24);
        x.odds(0, 0);
        return x;
    }

    static int rightVerse(int sleeper, int gate, int night) {
        return (13 * sleeper + 29 * gate + 7 * night) % 97;
    }

    /** Gives the RIGHT PASS for this NIGHT. */
    static void singRight(Lullabygate x, int sleeper, int gate) {
        x.sing(sleeper, gate, x.night(0), rightVerse(sleeper, gate, x.night(0)));
    }

    /** Brings a SLEEPER through a GATE whose QUEUE is empty; answers what the YAWN answers. */
    static int cross(Lullabygate x, int sleeper, int gate, int declares) {
        singRight(x, sleeper, gate);
        x.join(sleeper, gate, declares);
        return x.yawn(gate);
    }

    /** Makes one who is no BABY AWAKE in an empty QUEUE: a new BABY steps in ahead again and again. */
    static void wake(Lullabygate x, int sleeper, int gate) {
        int helper = x.sleeper(x.ofSleeper(sleeper, 0), true, 9);
        for (int patience = x.ofSleeper(sleeper, 1); patience > 0; patience--) {
            x.join(helper, gate, 0);
            if (x.ofSleeper(sleeper, 2) == 0) {
                x.join(sleeper, gate, 0);
            }
            x.yawn(gate);
        }
    }
}
