import java.util.ArrayList;
import java.util.List;
import java.util.concurrent.Callable;

/** Long runs of calls, the same ones every time, held against NaiveNight answer by answer. */
final class RandomRunsTest {
    private static final int RUNS = 400;
    private static final int CALLS = 480;

    private final Lullabygate x = new Lullabygate();
    private final NaiveNight due = new NaiveNight();
    private final List<String> told = new ArrayList<>();
    private final int gatesWanted;
    private long seed;
    private boolean isWrong;

    private RandomRunsTest(int run) {
        seed = 77 + 1000003L * run;
        gatesWanted = 1 + run % 8;
    }

    static void run() {
        for (int run = 0; run < RUNS; run++) {
            RandomRunsTest test = new RandomRunsTest(run);
            test.begin();
            for (int k = 0; k < CALLS && !test.isWrong; k++) {
                test.anyCall();
            }
            if (!test.isWrong) {
                test.compareAll();
            }
            Check.same("run " + run + " went as it is due", test.isWrong, false);
        }
    }

    private int below(int many) {
        seed = seed * 6364136223846793005L + 1442695040888963407L;
        return (int) Math.floorMod(seed >>> 33, (long) many);
    }

    /** Mostly a number that there is, now and then one beside. */
    private int near(int many) {
        return below(24) == 0 ? below(many + 3) - 1 : below(Math.max(1, many));
    }

    private void begin() {
        for (int k = 0; k < gatesWanted; k++) {
            int one = below(gatesWanted < 3 ? 2 : 6);
            int other = (one + 1 + below(gatesWanted < 3 ? 1 : 5)) % (gatesWanted < 3 ? 2 : 6);
            int from = below(24);
            int hours = below(2) == 0 ? 24 : 1 + below(24);
            compare("gate " + one + " " + other, () -> x.gate(one, other, from, hours),
                () -> due.gate(one, other, from, hours));
        }
        for (int k = 0; k < 6; k++) {
            newSleeper();
            newPart();
        }
    }

    private void newSleeper() {
        int land = near(gatesWanted < 3 ? 2 : 6);
        int baby = below(3) == 0 ? 1 : 0;
        int patience = below(2) == 0 ? 9 : below(20) == 0 ? below(12) : 1 + below(9);
        compare("sleeper " + land + " " + baby + " " + patience, () -> x.sleeper(land, baby == 1, patience),
            () -> due.sleeper(land, baby, patience));
    }

    private void newPart() {
        int s = near(due.night(3));
        int dream = near(8);
        int worth = near(below(2) == 0 ? 20 : 100);
        int dread = near(10);
        compare("part " + s + " " + dream + " " + worth + " " + dread, () -> x.part(s, dream, worth, dread),
            () -> due.part(s, dream, worth, dread));
    }

    private void anyCall() {
        int kind = below(100);
        if (kind < 40) {
            aSleeperCall(kind);
        } else if (kind < 60) {
            yawnSomewhere();
        } else if (kind < 80) {
            aRuleCall(kind);
        } else {
            aQuestion(kind);
        }
    }

    /** Mostly the first one there gets a PASS that may be GOOD. */
    private void yawnSomewhere() {
        int g = openGateNear();
        int first = g < 0 || g >= due.night(2) ? -1 : due.ofGate(g, 7);
        if (first >= 0 && below(4) > 0) {
            singNearlyRight(first, g);
        }
        if (below(4) == 0) {
            compare("wouldPay " + g, () -> x.wouldPay(g), () -> due.wouldPay(g));
        }
        compare("yawn " + g, () -> x.yawn(g), () -> due.yawn(g));
    }

    private int openGateNear() {
        for (int k = 0; k < 8; k++) {
            int g = below(Math.max(1, due.night(2)));
            if (due.ofGate(g, 2) == 1 && due.ofGate(g, 6) > 0) {
                return g;
            }
        }
        return near(due.night(2));
    }

    private void aSleeperCall(int kind) {
        int s = near(due.night(3));
        if (kind < 24) {
            joinSomewhere();
        } else if (kind < 26) {
            compare("leave " + s, () -> x.leave(s), () -> due.leave(s));
        } else if (kind < 29) {
            newSleeper();
        } else if (kind < 34) {
            newPart();
        } else {
            int p = near(due.night(5));
            compare("give " + p + " " + s, () -> x.give(p, s), () -> due.give(p, s));
        }
    }

    /** Mostly one AT REST, at a GATE of its LAND. */
    private void joinSomewhere() {
        for (int k = 0; k < 12; k++) {
            int s = below(Math.max(1, due.night(3)));
            int g = below(Math.max(1, due.night(2)));
            int land = due.ofSleeper(s, 0);
            if (due.ofSleeper(s, 2) == 0 && (due.ofGate(g, 0) == land || due.ofGate(g, 1) == land)) {
                joinDeclaring(s, g);
                return;
            }
        }
        joinDeclaring(near(due.night(3)), near(due.night(2)));
    }

    private void singNearlyRight(int s, int g) {
        int n = due.night(0) + (below(10) == 0 ? below(5) - 2 : 0);
        int right = Math.floorMod(13 * s + 29 * g + 7 * n, 97);
        int verse = right + (below(5) == 0 ? below(5) - 2 : 0);
        compare("sing " + s + " " + g + " " + n + " " + verse, () -> x.sing(s, g, n, verse),
            () -> due.sing(s, g, n, verse));
    }

    private void joinDeclaring(int s, int g) {
        int head = s < 0 || s >= due.night(3) ? 0 : due.ofSleeper(s, 5);
        int declares = below(30) == 0 ? below(1 << 25) - 5 : head & below(1 << 24);
        compare("join " + s + " " + g + " " + declares, () -> x.join(s, g, declares), () -> due.join(s, g, declares));
    }

    private void aRuleCall(int kind) {
        int land = near(6);
        int g = near(due.night(2));
        int number = near(11);
        if (kind < 63) {
            int rate = near(51);
            int allowance = near(100);
            compare("land " + land, () -> x.land(land, rate, allowance), () -> due.land(land, rate, allowance));
        } else if (kind < 66) {
            int to = near(6);
            compare("trade " + land + " " + to, () -> x.trade(land, to, number - 1),
                () -> due.trade(land, to, number - 1));
        } else if (kind < 69) {
            compare("odds " + g + " " + number, () -> x.odds(g, number), () -> due.odds(g, number));
        } else if (kind < 71) {
            compare("relieve " + g, () -> x.relieve(g), () -> due.relieve(g));
        } else if (kind < 73) {
            int verse = near(97);
            compare("revoke " + g + " " + verse, () -> x.revoke(g, verse) ? 1 : 0, () -> due.revoke(g, verse));
        } else if (kind < 76) {
            int p = near(due.night(5));
            compare("appeal " + p, () -> x.appeal(p) ? 1 : 0, () -> due.appeal(p));
        } else {
            int hours = below(6) == 0 ? below(51) : 1 + below(4);
            compare("pass " + hours, () -> x.pass(hours), () -> due.pass(hours));
        }
    }

    private void aQuestion(int kind) {
        int a = near(6);
        int b = near(6);
        int g = near(due.night(2));
        int s = near(due.night(3));
        int p = near(due.night(5));
        int promise = below(3) == 0 ? below(2002) : below(60);
        switch (kind) {
            case 80: compare("ofLand", () -> x.ofLand(a, near3(b)), () -> due.ofLand(a, near3(b))); break;
            case 81: compare("ofGate", () -> x.ofGate(g, near3(b)), () -> due.ofGate(g, near3(b))); break;
            case 82: compare("ofSleeper", () -> x.ofSleeper(s, near3(b)), () -> due.ofSleeper(s, near3(b))); break;
            case 83: compare("ofPart", () -> x.ofPart(p, b), () -> due.ofPart(p, b)); break;
            case 84: compare("isGood", () -> x.isGood(s, g) ? 1 : 0, () -> due.isGood(s, g)); break;
            case 85: compare("queue", () -> x.queue(g), () -> due.queue(g)); break;
            case 86: compare("night", () -> x.night(promise % 20 - 1), () -> due.night(promise % 20 - 1)); break;
            case 87: compare("way", () -> x.way(a, b), () -> due.way(a, b)); break;
            case 88: compare("wouldPay", () -> x.wouldPay(g), () -> due.wouldPay(g)); break;
            case 89: compare("plan", () -> x.plan(promise, -1), () -> due.plan(promise, -1)); break;
            case 90: compare("plan at " + g, () -> x.plan(promise, g), () -> due.plan(promise, g)); break;
            case 91: compareAll(); break;
            default: yawnSomewhere();
        }
    }

    private static int near3(int number) {
        return number * 2 - 1;
    }

    private void compareAll() {
        compare("digest", () -> x.digest(), this::dueDigest);
        compare("isSound", () -> x.isSound(), () -> true);
    }

    private long dueDigest() {
        long d = 6007;
        for (int what = 0; what <= 16; what++) {
            d = d * 31 + due.night(what);
        }
        for (int land = 0; land < 6; land++) {
            for (int what = 0; what <= 8; what++) {
                d = d * 31 + due.ofLand(land, what);
            }
        }
        for (int g = 0; g < due.night(2); g++) {
            for (int what = 2; what <= 9; what++) {
                d = d * 31 + due.ofGate(g, what);
            }
            d = d * 31 + due.wouldPay(g);
        }
        for (int s = 0; s < due.night(3); s++) {
            for (int what = 0; what <= 8; what++) {
                d = d * 31 + due.ofSleeper(s, what);
            }
        }
        for (int p = 0; p < due.night(5); p++) {
            for (int what = 3; what <= 5; what++) {
                d = d * 31 + due.ofPart(p, what);
            }
        }
        for (int land = 0; land < 6; land++) {
            d = d * 31 + due.way(0, land);
        }
        return (d * 31 + due.plan(20, -1)) * 31 + 1;
    }

    private void compare(String call, Callable<?> got, Callable<?> want) {
        if (isWrong) {
            return;
        }
        Object a = answer(got, "Lullabygate");
        Object b = answer(want, "NaiveNight");
        told.add(call + " -> " + b);
        if (!a.equals(b)) {
            isWrong = true;
            System.out.println(String.join("\n", told));
            System.out.println(call + " answered " + a + ", due is " + b);
        }
    }

    private static Object answer(Callable<?> call, String className) {
        try {
            return call.call();
        } catch (Exception e) {
            return (Check.isThrownBy(e, className) ? "throws." : "machine.") + e.getClass().getSimpleName();
        }
    }
}
