/** Edges of the APPEAL in the terms 6, and of the promise 15. */
final class AppealEdges {
    private static final Class<?> NO_SUCH = IndexOutOfBoundsException.class;

    private AppealEdges() {
    }

    static void run() {
        Edges.of(0, "An APPEAL for a PART that was CAUGHT and is in a STORE", AppealEdges::notCaught);
        Edges.of(0, "it is granted, if its WORTH is no more than ALLOWANCE of that LAND",
            AppealEdges::noMoreThanAllowance);
        Edges.of(0, "its SLEEPER (who brought it) is in that LAND", AppealEdges::whoBroughtItIsThere);
        Edges.of(0, "and AT REST", AppealEdges::whoBroughtItIsAtRest);
        Edges.of(0, "it goes to that HEAD, its FATE is EXEMPT, and the FINE is paid back.",
            AppealEdges::finesPaidBackDownTo0);
        Edges.of(15, "Returns whether it was granted.", AppealEdges::noMoreThanAllowance);
        Edges.of(15, "Throws IndexOutOfBoundsException if there is no such PART", AppealEdges::appealOutside);
        Edges.of(15, "Throws IllegalStateException if its FATE is not CAUGHT", AppealEdges::notCaught);
        Edges.of(15, "or it is in no STORE", AppealEdges::inNoStore);
    }

    /** SLEEPERS 0 and 1 of LAND 0; 0 came to LAND 1, where its PART 0 was CAUGHT. */
    private static Lullabygate caught(int worth) {
        Lullabygate x = Scene.openGate();
        x.odds(0, 10);
        x.sleeper(0, false, 1);
        x.sleeper(0, false, 9);
        x.part(0, 0, worth, 0);
        Scene.cross(x, 0, 0, 0);
        return x;
    }

    private static void noMoreThanAllowance() {
        int[][] worthAllowanceGranted = {
            {0, 0, 1}, {1, 0, 0}, {20, 19, 0}, {20, 20, 1}, {20, 21, 1}, {99, 98, 0}, {99, 99, 1}
        };
        for (int[] c : worthAllowanceGranted) {
            Lullabygate x = caught(c[0]);
            x.land(0, 10, 99 - c[1]);
            x.land(1, 10, c[1]);
            Check.same("WORTH " + c[0] + ", ALLOWANCE " + c[1], x.appeal(0), c[2] == 1);
            Check.same("its FATE", x.ofPart(0, 3), c[2] == 1 ? 2 : 3);
            Check.same("its FINE", x.ofLand(1, 5), c[2] == 1 ? 0 : c[0]);
        }
    }

    private static void whoBroughtItIsThere() {
        Lullabygate x = caught(1);
        Scene.cross(x, 1, 0, 0);
        Scene.cross(x, 0, 0, 0);
        long before = x.digest();
        Check.same("another one is there alone", x.appeal(0), false);
        Check.same("what is refused so changes nothing", x.digest(), before);
        Scene.cross(x, 0, 0, 0);
        Check.same("it has come back", x.appeal(0), true);
        Check.same("in its HEAD", x.ofPart(0, 5), 0);
        x.give(0, 1);
        Scene.cross(x, 1, 0, 0);
        Scene.cross(x, 0, 0, 0);
        Scene.cross(x, 1, 0, 0);
        Check.same("who brought it first is there alone", x.appeal(0), false);
        Scene.cross(x, 1, 0, 0);
        Check.same("who brought it last is there", x.appeal(0), true);
        Check.same("in that HEAD", x.ofPart(0, 5), 1);
    }

    private static void whoBroughtItIsAtRest() {
        Lullabygate x = caught(1);
        x.join(0, 0, 0);
        Check.same("in a QUEUE", x.appeal(0), false);
        x.leave(0);
        Check.same("AT REST again", x.appeal(0), true);
        Lullabygate y = caught(1);
        Scene.wake(y, 0, 0);
        Check.same("AWAKE", y.appeal(0), false);
        Check.same("it stays in the STORE", y.ofLand(1, 6), 1);
    }

    private static void finesPaidBackDownTo0() {
        Lullabygate x = caught(20);
        x.part(0, 0, 0, 9);
        Check.same("FINES", x.ofLand(1, 5), 20);
        x.appeal(0);
        Check.same("all is paid back", x.ofLand(1, 5), 0);
        Check.same("of all LANDS", x.night(16), 0);
        Check.same("EXEMPT", x.ofPart(0, 3), 2);
        Check.same("in that HEAD", x.ofSleeper(0, 5), 3);
        Check.same("the STORE is empty", x.ofLand(1, 6), 0);
        Scene.cross(x, 0, 0, 0);
        Check.same("CAUGHT again, with one of WORTH 0", x.ofLand(0, 5), 20);
        x.appeal(1);
        Check.same("a FINE of 0 is paid back", x.ofLand(0, 5), 20);
        Check.same("the HIDINGS stay", x.ofSleeper(0, 8), 3);
    }

    private static void appealOutside() {
        Lullabygate x = Scene.openGate();
        Check.noSuch(x, "PART 0 of none", () -> x.appeal(0));
        Lullabygate full = Scene.full();
        Check.outside(full, "PART", 0, 23, NO_SUCH, part -> full.appeal(part));
        Check.badState(full, "the last PART", () -> full.appeal(23));
        Lullabygate one = caught(1);
        Check.outside(one, "PART", 0, 0, NO_SUCH, part -> one.appeal(part));
    }

    private static void notCaught() {
        Lullabygate x = Scene.openGate();
        x.trade(1, 2, 5);
        x.land(1, 10, 99);
        x.sleeper(0, false, 9);
        x.sleeper(0, false, 9);
        for (int k = 0; k < 5; k++) {
            x.part(k == 4 ? 1 : 0, 0, k == 4 ? 99 : 10, k == 1 ? 5 : 0);
        }
        Scene.cross(x, 0, 0, 3);
        x.land(1, 10, 0);
        Scene.cross(x, 1, 0, 16);
        int[] fates = {2, 5, 4, 4, 1};
        for (int k = 0; k < 5; k++) {
            int part = k;
            Check.same("FATE", x.ofPart(k, 3), fates[k]);
            Check.badState(x, "FATE " + fates[k], () -> x.appeal(part));
        }
        x.part(0, 0, 0, 0);
        Check.badState(x, "FATE 0", () -> x.appeal(5));
        Lullabygate y = Scene.openGate();
        y.trade(0, 2, 5);
        y.sleeper(0, false, 9);
        y.part(0, 0, 10, 5);
        Scene.cross(y, 0, 0, 0);
        Check.same("SLIPPED first", y.ofPart(0, 3), 4);
        Scene.cross(y, 0, 0, 1);
        Scene.cross(y, 0, 0, 0);
        Check.same("then in a STORE, where who brought it is", y.ofPart(0, 4), 1);
        Check.badState(y, "TURNED BACK, not CAUGHT", () -> y.appeal(0));
    }

    private static void inNoStore() {
        Lullabygate x = caught(1);
        x.appeal(0);
        Check.badState(x, "granted just now", () -> x.appeal(0));
        Scene.wake(x, 0, 0);
        Check.badState(x, "GONE", () -> x.appeal(0));
    }
}
