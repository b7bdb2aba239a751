/** Edges of the YAWN in the terms 4, and of the promises 14 and 26. */
final class YawnEdges {
    private static final Class<?> NO_SUCH = IndexOutOfBoundsException.class;

    private YawnEdges() {
    }

    static void run() {
        Edges.of(0, "A YAWN at a GATE that is OPEN", YawnEdges::fromTheFirstToTheLastOpenHour);
        Edges.of(0, "the first one in its QUEUE steps out of it", YawnEdges::theFirstOneSteps);
        Edges.of(0, "Without a GOOD PASS: it is sent back (AT REST in its LAND)", YawnEdges::sentBack);
        Edges.of(0, "nothing happens to its PARTS (nor to their FATES), and its PASS stays.",
            YawnEdges::nothingHappensToItsParts);
        runSearches();
        runDeclared();
        Edges.of(0, "The SLEEPER is AT REST in the other LAND then, and its PASS is gone.",
            YawnEdges::atRestInTheOtherLand);
        Edges.of(0, "Then all who still stand in that QUEUE lose 1 of PATIENCE", YawnEdges::whoLosesPatience);
        Edges.of(0, "who has 0 is AWAKE and steps out.", YawnEdges::awakeWith0);
        Edges.of(14, "Returns how many PARTS were CAUGHT; NONE, if the SLEEPER was sent back.",
            YawnEdges::caughtFrom0To24OrNone);
        Edges.of(14, "Throws IndexOutOfBoundsException if there is no such GATE", YawnEdges::yawnOutside);
        Edges.of(14, "Throws IllegalStateException if it is not OPEN", YawnEdges::fromTheFirstToTheLastOpenHour);
        Edges.of(14, "or nobody stands there", YawnEdges::nobodyStandsThere);
        Edges.of(26, "Returns the DUTY that the first one in its QUEUE would pay, if it came through now",
            YawnEdges::wouldPayAsItPays);
        Edges.of(26, "(OPEN or not", YawnEdges::wouldPayOpenOrNot);
        Edges.of(26, "0 without a GOOD PASS", YawnEdges::wouldPayWithoutAGoodPass);
        Edges.of(26, "or without any).", YawnEdges::wouldPayWithoutAny);
        Edges.of(26, "Throws IndexOutOfBoundsException if there is no such GATE", YawnEdges::wouldPayOutside);
    }

    private static void runSearches() {
        Edges.of(0, "Otherwise it is SEARCHED, if the GUARD does not DOZE", YawnEdges::searchedUpToAWatchOf4);
        Edges.of(0, "a DRAWN number modulo 10 is less than ODDS", YawnEdges::lessThanOdds);
        Edges.of(0, "(with a GUARD who DOZES nothing is DRAWN", YawnEdges::dozingDrawsNothing);
        Edges.of(0, "without HIDDEN PARTS it is DRAWN all the same)", YawnEdges::drawnWithoutHiddenParts);
        Edges.of(0, "If it is SEARCHED, each HIDDEN PART is CAUGHT", YawnEdges::caughtFrom0To24OrNone);
        Edges.of(0, "it goes to the STORE of the LAND to which it is coming, and its WORTH is a FINE there.",
            YawnEdges::finesFrom0On);
        Edges.of(0, "If not, each HIDDEN PART has SLIPPED.", YawnEdges::slippedFrom0To24);
    }

    private static void runDeclared() {
        Edges.of(0, "DECLARED PARTS, one by one: a NIGHTMARE, if QUOTA or more of them came in so to that LAND",
            YawnEdges::quotaOrMore);
        Edges.of(0, "this NIGHT (DECLARED PARTS that come in at a YAWN alone count", YawnEdges::whichOnesCount);
        Edges.of(0, "not one that an APPEAL made EXEMPT)", YawnEdges::appealedOnesDoNotCount);
        Edges.of(0, "is TURNED BACK: it goes to the STORE of the LAND from which the SLEEPER comes.",
            YawnEdges::turnedBackToWhereItComesFrom);
        Edges.of(0, "Others come in (a NIGHTMARE counts for the QUOTA).", YawnEdges::othersComeIn);
        Edges.of(0, "If WORTH of all that come in so is together no more than ALLOWANCE, they are EXEMPT",
            YawnEdges::noMoreThanAllowance);
        Edges.of(0, "otherwise they are DECLARED", YawnEdges::noMoreThanAllowance);
        Edges.of(0, "(that WORTH less ALLOWANCE) * RATE / 100 is the DUTY that is paid there",
            YawnEdges::dutiesFromTheLeastToTheMost);
        Edges.of(0, "(ALLOWANCE and RATE of the LAND to which it is coming).", YawnEdges::rulesOfTheLandItComesTo);
    }

    /** A GATE 0 as in Scene.openGate, and the SLEEPER 0 in LAND 0 with PARTS of those WORTHS. */
    private static Lullabygate carrier(int dread, int... worths) {
        Lullabygate x = Scene.openGate();
        x.sleeper(0, false, 9);
        for (int worth : worths) {
            x.part(0, 0, worth, dread);
        }
        return x;
    }

    private static int all(int many) {
        return (1 << many) - 1;
    }

    private static void fromTheFirstToTheLastOpenHour() {
        Lullabygate x = new Lullabygate();
        x.gate(0, 1, 23, 2);
        x.sleeper(0, false, 9);
        x.join(0, 0, 0);
        Scene.toHour(x, 22);
        Check.badState(x, "the HOUR ahead", () -> x.yawn(0));
        x.pass(1);
        Check.same("the first HOUR", x.yawn(0), -1);
        x.pass(1);
        x.join(0, 0, 0);
        Check.same("the last HOUR, behind 23", x.yawn(0), -1);
        x.join(0, 0, 0);
        x.pass(1);
        Check.badState(x, "the HOUR behind", () -> x.yawn(0));
        Check.same("it stands there still", x.queue(0), "0");
        Check.same("two YAWNS", x.night(14), 2);
    }

    private static void theFirstOneSteps() {
        Lullabygate x = Scene.openGate();
        for (int k = 0; k < 3; k++) {
            x.sleeper(0, k == 2, 9);
            x.join(k, 0, 0);
        }
        x.yawn(0);
        Check.same("the BABY", x.queue(0), "0 1");
        x.yawn(0);
        Check.same("then the first one", x.queue(0), "1");
        x.yawn(0);
        Check.same("then the last one", x.queue(0), "-");
    }

    private static void sentBack() {
        for (int land = 0; land <= 1; land++) {
            Lullabygate x = Scene.openGate();
            x.sleeper(land, false, 1);
            x.join(0, 0, 0);
            Check.same("without a PASS", x.yawn(0), -1);
            Check.same("AT REST", x.ofSleeper(0, 2), 0);
            Check.same("in its LAND", x.ofSleeper(0, 0), land);
            Check.same("PATIENCE stays", x.ofSleeper(0, 1), 1);
            x.sing(0, 0, 0, 1);
            x.join(0, 0, 0);
            Check.same("with a wrong VERSE", x.yawn(0), -1);
            x.sing(0, 0, 1, 7);
            x.join(0, 0, 0);
            Check.same("with a PASS for the next NIGHT", x.yawn(0), -1);
            Check.same("nothing DRAWN", x.night(13), 0);
        }
    }

    private static void nothingHappensToItsParts() {
        Lullabygate x = carrier(9, 50, 99);
        x.odds(0, 10);
        x.sing(0, 0, 0, 96);
        x.join(0, 0, 1);
        x.yawn(0);
        Check.same("its HEAD", x.ofSleeper(0, 5), 3);
        Check.same("the FATE of a DECLARED one", x.ofPart(0, 3), 0);
        Check.same("the FATE of a HIDDEN one", x.ofPart(1, 3), 0);
        Check.same("its PASS", x.ofSleeper(0, 6), 96);
        Check.same("no HIDINGS", x.night(12), 0);
        Check.same("no FINES", x.night(16), 0);
        Check.same("no DUTIES", x.night(15), 0);
        Check.same("no NIGHTMARES", x.ofLand(1, 3), 0);
    }

    private static void searchedUpToAWatchOf4() {
        Lullabygate x = carrier(0, 1);
        x.odds(0, 10);
        x.pass(4);
        Check.same("with a WATCH of 4", Scene.cross(x, 0, 0, 0), 1);
        x.appeal(0);
        x.pass(1);
        Check.same("with a WATCH of 5", Scene.cross(x, 0, 0, 0), 0);
        x.relieve(0);
        Check.same("with a WATCH of 0", Scene.cross(x, 0, 0, 0), 1);
    }

    /** The first four numbers that are DRAWN end in 3, 4, 5 and 8. */
    private static void lessThanOdds() {
        for (int odds = 0; odds <= 10; odds++) {
            Lullabygate x = carrier(0, 0);
            x.odds(0, odds);
            for (int digit : new int[] {3, 4, 5, 8}) {
                Check.same(digit + " with ODDS " + odds, Scene.cross(x, 0, 0, 0), digit < odds ? 1 : 0);
                if (digit < odds) {
                    x.appeal(0);
                }
            }
        }
    }

    private static void dozingDrawsNothing() {
        Lullabygate x = carrier(0, 1);
        x.odds(0, 4);
        x.pass(5);
        for (int k = 0; k < 4; k++) {
            Check.same("SLIPPED", Scene.cross(x, 0, 0, 0), 0);
        }
        Check.same("nothing DRAWN", x.night(13), 0);
        x.relieve(0);
        Check.same("the first number, which is 3, is DRAWN then", Scene.cross(x, 0, 0, 0), 1);
        Check.same("one DRAWN", x.night(13), 1);
    }

    private static void drawnWithoutHiddenParts() {
        Lullabygate x = carrier(0, 1);
        x.odds(0, 5);
        Check.same("all DECLARED", Scene.cross(x, 0, 0, 1), 0);
        x.sleeper(0, false, 9);
        Check.same("an empty HEAD", Scene.cross(x, 1, 0, 0), 0);
        Check.same("two DRAWN", x.night(13), 2);
        Check.same("the third one, which ends in 5, does not search", Scene.cross(x, 0, 0, 0), 0);
        Check.same("three DRAWN", x.night(13), 3);
    }

    private static void caughtFrom0To24OrNone() {
        for (int many : new int[] {0, 1, 24}) {
            Lullabygate x = carrier(9, new int[many]);
            x.odds(0, 10);
            x.join(0, 0, 0);
            Check.same("sent back with " + many, x.yawn(0), -1);
            Check.same("HIDDEN ones", Scene.cross(x, 0, 0, 0), many);
            Check.same("CAUGHT ones", x.night(8), many);
            Check.same("in the STORE", x.ofLand(1, 6), many);
            Check.same("left in the HEAD", x.ofSleeper(0, 5), 0);
        }
        Lullabygate x = carrier(0, 1, 1, 1);
        x.odds(0, 10);
        Check.same("all but one DECLARED", Scene.cross(x, 0, 0, 5), 1);
        Check.same("that one", x.ofPart(1, 3), 3);
    }

    private static void finesFrom0On() {
        for (int worth : new int[] {0, 1, 99}) {
            Lullabygate x = carrier(0, worth);
            x.odds(0, 10);
            Scene.cross(x, 0, 0, 0);
            Check.same("FINE there", x.ofLand(1, 5), worth);
            Check.same("no FINE here", x.ofLand(0, 5), 0);
            Check.same("in the STORE there", x.ofPart(0, 4), 1);
        }
        int[] worths = new int[24];
        java.util.Arrays.fill(worths, 99);
        Lullabygate x = carrier(0, worths);
        x.odds(0, 10);
        Scene.cross(x, 0, 0, 0);
        Check.same("the most at one YAWN", x.ofLand(1, 5), 2376);
    }

    private static void slippedFrom0To24() {
        for (int many : new int[] {0, 1, 24}) {
            Lullabygate x = carrier(9, new int[many]);
            Check.same("none CAUGHT", Scene.cross(x, 0, 0, 0), 0);
            Check.same("SLIPPED ones", x.night(9), many);
            Check.same("all in the HEAD still", x.ofSleeper(0, 5), all(many));
            Check.same("none in the STORE", x.ofLand(1, 6), 0);
        }
    }

    private static void quotaOrMore() {
        for (int quota = 0; quota <= 4; quota++) {
            Lullabygate x = carrier(5, 1, 1, 1);
            x.trade(1, 2, 5 - quota);
            Scene.cross(x, 0, 0, 7);
            for (int k = 0; k < 3; k++) {
                Check.same("a QUOTA of " + quota + ", NIGHTMARE " + k, x.ofPart(k, 3), k < quota ? 2 : 5);
            }
            Check.same("came in with a QUOTA of " + quota, x.ofLand(1, 3), Math.min(quota, 3));
        }
        // Three came in; then the QUOTA is below that, just that, and above that.
        for (int quota = 2; quota <= 4; quota++) {
            Lullabygate x = carrier(5, 1, 1, 1);
            x.sleeper(0, false, 9);
            x.part(1, 0, 1, 5);
            Scene.cross(x, 0, 0, 7);
            x.trade(1, 2, 5 - quota);
            Scene.cross(x, 1, 0, 8);
            Check.same("3 came in, a QUOTA of " + quota, x.ofPart(3, 3), quota == 4 ? 2 : 5);
        }
    }

    private static void whichOnesCount() {
        Lullabygate x = carrier(9, 1, 1, 1);
        x.trade(1, 2, 4);
        x.odds(0, 10);
        Scene.cross(x, 0, 0, 6);
        Check.same("a HIDDEN one that was CAUGHT does not", x.ofLand(1, 3), 1);
        Lullabygate y = carrier(9, 1, 1, 1);
        y.trade(1, 2, 4);
        Scene.cross(y, 0, 0, 4);
        Check.same("HIDDEN ones that SLIPPED do not", y.ofLand(1, 3), 1);
        Check.same("so a DECLARED one comes in", y.ofPart(2, 3), 2);
        Lullabygate z = carrier(9, 1, 1);
        z.trade(1, 2, 4);
        Scene.toHour(z, 23);
        Scene.cross(z, 0, 0, 3);
        Check.same("one TURNED BACK does not", z.ofLand(1, 3), 1);
        z.pass(1);
        Check.same("those of the NIGHT ahead do not", z.ofLand(1, 3), 0);
        Lullabygate s = carrier(9, 1);
        Scene.cross(s, 0, 0, 1);
        Check.same("one that came out of its LAND does not", s.ofLand(0, 3), 0);
        Scene.cross(s, 0, 0, 1);
        Scene.cross(s, 0, 0, 1);
        Check.same("one that came in twice counts twice", s.ofLand(1, 3), 2);
    }

    private static void appealedOnesDoNotCount() {
        Lullabygate x = carrier(9, 1, 1);
        x.trade(1, 2, 4);
        x.odds(0, 10);
        Scene.cross(x, 0, 0, 0);
        Check.same("granted", x.appeal(0), true);
        Check.same("EXEMPT", x.ofPart(0, 3), 2);
        Check.same("none came in so", x.ofLand(1, 3), 0);
        x.sleeper(0, false, 9);
        x.part(1, 0, 1, 9);
        Scene.cross(x, 1, 0, 4);
        Check.same("so one more comes in", x.ofPart(2, 3), 2);
    }

    private static void turnedBackToWhereItComesFrom() {
        for (int land = 0; land <= 1; land++) {
            Lullabygate x = Scene.openGate();
            x.trade(1 - land, 2, 5);
            x.sleeper(land, false, 9);
            x.part(0, 0, 9, 5);
            Scene.cross(x, 0, 0, 1);
            Check.same("in that STORE", x.ofPart(0, 4), land);
            Check.same("in no HEAD", x.ofPart(0, 5), -1);
            Check.same("TURNED BACK", x.ofPart(0, 3), 5);
            Check.same("the SLEEPER goes on", x.ofSleeper(0, 0), 1 - land);
            Check.same("no FINE", x.night(16), 0);
            Check.same("no HIDING", x.night(12), 0);
        }
    }

    private static void othersComeIn() {
        Lullabygate x = carrier(4, 1, 1, 1);
        x.trade(1, 2, 4);
        x.part(0, 0, 1, 5);
        x.part(0, 0, 1, 4);
        x.part(0, 0, 1, 5);
        Scene.cross(x, 0, 0, 63);
        Check.same("a DREAD of 4 does not count", x.ofLand(1, 3), 1);
        Check.same("the first NIGHTMARE comes in", x.ofPart(3, 3), 2);
        Check.same("a DREAD of 4 behind it comes in", x.ofPart(4, 3), 2);
        Check.same("the second NIGHTMARE does not", x.ofPart(5, 3), 5);
        x.trade(1, 2, 1);
        Scene.cross(x, 0, 0, 0);
        Scene.cross(x, 0, 0, 23);
        Check.same("a DREAD of 4 comes in with a QUOTA of 0", x.ofPart(4, 3), 2);
    }

    private static void noMoreThanAllowance() {
        int[][] allowanceWorthsFate = {
            {0, 0, 0, 2}, {0, 0, 1, 1}, {20, 10, 9, 2}, {20, 10, 10, 2}, {20, 10, 11, 1}, {99, 99, 0, 2}, {99, 99, 1, 1}
        };
        for (int[] c : allowanceWorthsFate) {
            Lullabygate x = carrier(0, c[1], c[2]);
            x.land(1, 50, c[0]);
            Scene.cross(x, 0, 0, 3);
            Check.same(c[1] + " and " + c[2] + " with " + c[0], x.ofPart(0, 3), c[3]);
            Check.same(c[2] + " and " + c[1] + " with " + c[0], x.ofPart(1, 3), c[3]);
        }
        Lullabygate hidden = carrier(0, 20, 1);
        Scene.cross(hidden, 0, 0, 1);
        Check.same("HIDDEN ones do not count", hidden.ofPart(0, 3), 2);
        Lullabygate back = carrier(0, 20);
        back.trade(1, 2, 5);
        back.part(0, 0, 99, 9);
        Scene.cross(back, 0, 0, 3);
        Check.same("those TURNED BACK do not count", back.ofPart(0, 3), 2);
        Check.same("and pay nothing", back.night(15), 0);
    }

    private static void dutiesFromTheLeastToTheMost() {
        int[] worths = new int[24];
        java.util.Arrays.fill(worths, 99);
        int[][] allowanceRateDuty = {{0, 0, 0}, {0, 1, 23}, {0, 50, 1188}, {99, 50, 1138}, {99, 1, 22}};
        for (int[] c : allowanceRateDuty) {
            Lullabygate x = carrier(0, worths);
            x.land(1, c[1], c[0]);
            Scene.cross(x, 0, 0, all(24));
            Check.same("RATE " + c[1] + ", ALLOWANCE " + c[0], x.ofLand(1, 4), c[2]);
            Check.same("DECLARED ones", x.night(6), 24);
        }
        Lullabygate x = carrier(0, 21, 0);
        Scene.cross(x, 0, 0, 1);
        Check.same("1 * 10 / 100", x.ofLand(1, 4), 0);
        Check.same("DECLARED without a DUTY", x.ofPart(0, 3), 1);
    }

    private static void rulesOfTheLandItComesTo() {
        Lullabygate x = carrier(0, 40);
        x.land(0, 50, 0);
        x.land(1, 10, 30);
        Scene.cross(x, 0, 0, 1);
        Check.same("10 * 10 / 100", x.ofLand(1, 4), 1);
        Check.same("nothing here", x.ofLand(0, 4), 0);
        Scene.cross(x, 0, 0, 1);
        Check.same("40 * 50 / 100 on the way back", x.ofLand(0, 4), 20);
        Check.same("DUTIES there stay", x.ofLand(1, 4), 1);
    }

    private static void atRestInTheOtherLand() {
        Lullabygate x = carrier(0, 1);
        x.sleeper(0, false, 9);
        x.join(1, 0, 0);
        x.sing(1, 0, 0, 13);
        x.yawn(0);
        Check.same("AT REST", x.ofSleeper(1, 2), 0);
        Check.same("in no QUEUE", x.ofSleeper(1, 3), -1);
        Check.same("in the other LAND", x.ofSleeper(1, 0), 1);
        Check.same("its PASS", x.ofSleeper(1, 6), -1);
        x.join(1, 0, 0);
        Check.same("without a PASS it is sent back", x.yawn(0), -1);
        Check.same("in the other LAND still", x.ofSleeper(1, 0), 1);
    }

    private static void whoLosesPatience() {
        Lullabygate x = Scene.openGate();
        x.gate(0, 1, 0, 24);
        for (int k = 0; k < 5; k++) {
            x.sleeper(0, false, 5);
        }
        x.join(0, 0, 0);
        x.join(1, 0, 0);
        x.join(2, 0, 0);
        x.join(3, 1, 0);
        x.yawn(0);
        Check.same("the first one does not", x.ofSleeper(0, 1), 5);
        Check.same("the second one", x.ofSleeper(1, 1), 4);
        Check.same("the last one", x.ofSleeper(2, 1), 4);
        Check.same("one in another QUEUE does not", x.ofSleeper(3, 1), 5);
        Check.same("one AT REST does not", x.ofSleeper(4, 1), 5);
        Scene.singRight(x, 1, 0);
        x.yawn(0);
        Check.same("one who came through does not", x.ofSleeper(1, 1), 4);
        Check.same("the last one again", x.ofSleeper(2, 1), 3);
        x.leave(2);
        x.join(2, 0, 0);
        Check.same("PATIENCE does not come back", x.ofSleeper(2, 1), 3);
        x.yawn(0);
        Check.same("alone it loses nothing", x.ofSleeper(2, 1), 3);
    }

    private static void awakeWith0() {
        Lullabygate x = Scene.openGate();
        int[] patience = {1, 2, 1, 1, 2, 1};
        for (int k = 0; k < 6; k++) {
            x.sleeper(0, false, patience[k]);
            x.part(k, 0, 1, 0);
            x.join(k, 0, 0);
        }
        x.yawn(0);
        Check.same("who has 1 left stands there", x.queue(0), "1 4");
        Check.same("their places", x.ofSleeper(4, 4), 1);
        Check.same("AWAKE ones", x.night(4), 3);
        Check.same("their PARTS are GONE", x.night(11), 3);
        Check.same("AWAKE ones stand nowhere", x.ofSleeper(5, 3), -1);
        Check.same("HIDDEN WORTH of those who stand there", x.ofGate(0, 8), 2);
        x.yawn(0);
        Check.same("nobody is left", x.queue(0), "-");
        Check.badState(x, "nobody stands there", () -> x.yawn(0));
    }

    private static void yawnOutside() {
        Lullabygate x = new Lullabygate();
        Check.noSuch(x, "GATE 0 of none", () -> x.yawn(0));
        Lullabygate full = Scene.full();
        Check.outside(full, "GATE", 0, 7, NO_SUCH, gate -> full.yawn(gate));
        full.join(11, 7, 0);
        Check.same("the last GATE", full.yawn(7), -1);
    }

    private static void nobodyStandsThere() {
        Lullabygate x = Scene.openGate();
        x.gate(0, 1, 0, 24);
        x.sleeper(0, false, 9);
        Check.badState(x, "nobody yet", () -> x.yawn(0));
        x.join(0, 0, 0);
        Check.badState(x, "at another GATE", () -> x.yawn(1));
        x.leave(0);
        Check.badState(x, "who stood there LEFT", () -> x.yawn(0));
        x.join(0, 0, 0);
        x.yawn(0);
        Check.badState(x, "who stood there was sent back", () -> x.yawn(0));
        Check.same("one YAWN", x.night(14), 1);
    }

    private static void wouldPayAsItPays() {
        int[][] worthsAndDuty = {{20, 0, 0}, {20, 1, 0}, {20, 10, 1}, {99, 99, 17}};
        for (int[] w : worthsAndDuty) {
            Lullabygate x = carrier(0, w[0], w[1]);
            Scene.singRight(x, 0, 0);
            x.join(0, 0, 3);
            long before = x.digest();
            Check.same("would pay for " + w[0] + " and " + w[1], x.wouldPay(0), w[2]);
            Check.same("nothing has changed", x.digest(), before);
            x.yawn(0);
            Check.same("and so it pays", x.ofLand(1, 4), w[2]);
        }
        Lullabygate hides = carrier(0, 99);
        Scene.singRight(hides, 0, 0);
        hides.join(0, 0, 0);
        Check.same("nothing for what is HIDDEN", hides.wouldPay(0), 0);
        Lullabygate back = carrier(5, 99, 99);
        back.trade(1, 2, 4);
        Scene.singRight(back, 0, 0);
        back.join(0, 0, 3);
        Check.same("nothing for what would be TURNED BACK", back.wouldPay(0), 7);
        back.trade(1, 2, 1);
        Check.same("nothing with a QUOTA of 0", back.wouldPay(0), 0);
    }

    private static void wouldPayOpenOrNot() {
        Lullabygate x = new Lullabygate();
        x.gate(0, 1, 1, 1);
        x.land(1, 50, 0);
        x.sleeper(0, false, 9);
        x.part(0, 0, 40, 0);
        Scene.singRight(x, 0, 0);
        x.join(0, 0, 1);
        Check.same("the HOUR ahead", x.wouldPay(0), 20);
        x.pass(1);
        Check.same("OPEN", x.wouldPay(0), 20);
        x.pass(1);
        Check.same("the HOUR behind", x.wouldPay(0), 20);
    }

    private static void wouldPayWithoutAGoodPass() {
        Lullabygate x = carrier(0, 99);
        x.land(1, 50, 0);
        x.join(0, 0, 1);
        Check.same("without a PASS", x.wouldPay(0), 0);
        x.sing(0, 0, 0, 1);
        Check.same("a VERSE that differs by 1", x.wouldPay(0), 0);
        x.sing(0, 0, 0, 0);
        Check.same("a GOOD one", x.wouldPay(0), 49);
        x.revoke(0, 0);
        Check.same("a REVOKED one", x.wouldPay(0), 0);
        x.pass(5);
        Check.same("a REVOKED one with a GUARD who DOZES", x.wouldPay(0), 49);
        x.sing(0, 0, 0, 1);
        Check.same("1 off with a GUARD who DOZES", x.wouldPay(0), 49);
        x.pass(19);
        Check.same("one of the NIGHT ahead", x.wouldPay(0), 0);
    }

    private static void wouldPayWithoutAny() {
        Lullabygate x = carrier(0, 99);
        x.land(1, 50, 0);
        Scene.singRight(x, 0, 0);
        Check.same("nobody yet", x.wouldPay(0), 0);
        x.join(0, 0, 1);
        Check.same("one", x.wouldPay(0), 49);
        x.leave(0);
        Check.same("nobody any more", x.wouldPay(0), 0);
    }

    private static void wouldPayOutside() {
        Lullabygate x = new Lullabygate();
        Check.noSuch(x, "GATE 0 of none", () -> x.wouldPay(0));
        Lullabygate full = Scene.full();
        Check.outside(full, "GATE", 0, 7, NO_SUCH, gate -> full.wouldPay(gate));
        Check.same("the last GATE", full.wouldPay(7), 0);
    }
}
