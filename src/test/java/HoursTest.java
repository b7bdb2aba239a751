/** Promise 16, and what begins with an HOUR. */
final class HoursTest {
    private HoursTest() {
    }

    static void run() {
        promise16HourAndNight();
        promise16TheLastNight();
        promise16Refuses();
        promise16Watch();
        promise16Open();
        promise16Spreading();
        promise16Passes();
    }

    private static void promise16HourAndNight() {
        Lullabygate x = new Lullabygate();
        Check.same("one", x.pass(1), 1);
        Check.same("to 23", x.pass(22), 23);
        Check.same("NIGHT still", x.night(0), 0);
        Check.same("behind 23", x.pass(1), 0);
        Check.same("the next NIGHT", x.night(0), 1);
        Check.same("48", x.pass(48), 0);
        Check.same("two NIGHTS more", x.night(0), 3);
        Check.same("47", x.pass(47), 23);
        Check.same("HOUR", x.night(1), 23);
        Check.same("NIGHT", x.night(0), 4);
    }

    private static void promise16TheLastNight() {
        Lullabygate x = new Lullabygate();
        for (int k = 0; k < 49; k++) {
            x.pass(48);
        }
        Check.same("NIGHT 98", x.night(0), 98);
        Check.same("to the last HOUR", x.pass(47), 23);
        Check.same("NIGHT 99", x.night(0), 99);
        Check.badState(x, "one more", () -> x.pass(1));
        Check.badState(x, "48 more", () -> x.pass(48));
        Check.badArgument(x, "49 more", () -> x.pass(49));
        Lullabygate y = new Lullabygate();
        for (int k = 0; k < 49; k++) {
            y.pass(48);
        }
        Check.badState(y, "48 into NIGHT 100", () -> y.pass(48));
        Check.same("24 into NIGHT 99", y.pass(24), 0);
        Check.badState(y, "24 into NIGHT 100", () -> y.pass(24));
        Check.same("23 in NIGHT 99", y.pass(23), 23);
    }

    private static void promise16Refuses() {
        Lullabygate x = new Lullabygate();
        x.pass(3);
        for (int hours : new int[] {0, -1, 49, Scene.BIG, Scene.SMALL}) {
            Check.badArgument(x, "pass " + hours, () -> x.pass(hours));
        }
        Check.same("HOUR", x.night(1), 3);
    }

    private static void promise16Watch() {
        Lullabygate x = new Lullabygate();
        x.gate(0, 1, 22, 4);
        x.gate(0, 1, 0, 24);
        x.gate(0, 1, 3, 1);
        int[][] watches = {
            {0, 0, 0}, {1, 1, 0}, {0, 2, 0}, {0, 3, 1}, {0, 4, 0}, {0, 5, 0}
        };
        for (int hour = 0; hour < watches.length; hour++) {
            for (int gate = 0; gate < 3; gate++) {
                Check.same("WATCH of " + gate + " at " + hour, x.ofGate(gate, 4), watches[hour][gate]);
                Check.same("DOZES " + gate + " at " + hour, x.ofGate(gate, 5), watches[hour][gate] >= 5 ? 1 : 0);
            }
            x.pass(1);
        }
        x.pass(15);
        Check.same("before it opens", x.ofGate(0, 4), 0);
        x.pass(1);
        Check.same("as it opens", x.ofGate(0, 4), 1);
        x.pass(3);
        Check.same("over the end of the NIGHT", x.ofGate(0, 4), 4);
        x.relieve(0);
        x.pass(1);
        Check.same("as it shuts", x.ofGate(0, 4), 0);
        x.pass(48);
        Check.same("WATCH of one that never shuts", x.ofGate(1, 4), 74);
    }

    private static void promise16Open() {
        Lullabygate x = new Lullabygate();
        int[][] gates = {{0, 1}, {23, 1}, {23, 2}, {20, 10}, {5, 24}, {12, 12}, {0, 23}, {7, 3}};
        for (int[] g : gates) {
            x.gate(0, 1, g[0], g[1]);
        }
        for (int hour = 0; hour < 24; hour++) {
            for (int gate = 0; gate < gates.length; gate++) {
                int due = 0;
                for (int k = 0; k < gates[gate][1]; k++) {
                    due = (gates[gate][0] + k) % 24 == hour ? 1 : due;
                }
                Check.same("OPEN " + gate + " at " + hour, x.ofGate(gate, 2), due);
            }
            x.pass(1);
        }
    }

    /** GATES in a line from LAND 0 to 4, and one far away. */
    private static void promise16Spreading() {
        Lullabygate x = new Lullabygate();
        x.gate(1, 0, 0, 1);
        x.gate(1, 2, 0, 1);
        x.gate(3, 2, 0, 1);
        x.gate(3, 4, 0, 1);
        x.gate(0, 5, 0, 1);
        x.revoke(2, 70);
        x.revoke(2, 7);
        x.revoke(0, 7);
        int[][] due = {{1, 0, 2, 0, 0}, {1, 2, 2, 2, 1}, {2, 2, 2, 2, 1}, {2, 2, 2, 2, 2}, {2, 2, 2, 2, 2}};
        for (int hour = 0; hour < due.length; hour++) {
            for (int gate = 0; gate < 5; gate++) {
                Check.same("REVOKED at " + gate + " at " + hour, x.ofGate(gate, 9), due[hour][gate]);
            }
            x.pass(1);
        }
        Lullabygate y = new Lullabygate();
        y.gate(0, 1, 0, 24);
        y.gate(2, 3, 0, 24);
        y.revoke(0, 1);
        y.pass(48);
        Check.same("no LAND together", y.ofGate(1, 9), 0);
        y.gate(1, 2, 0, 24);
        Check.same("a new GATE", y.ofGate(2, 9), 0);
        y.pass(1);
        Check.same("a new GATE then", y.ofGate(2, 9), 1);
        Check.same("not yet beyond", y.ofGate(1, 9), 0);
        y.pass(1);
        Check.same("beyond", y.ofGate(1, 9), 1);
        y.sleeper(2, false, 9);
        y.relieve(1);
        y.sing(0, 1, y.night(0), 1);
        Check.same("the RIGHT VERSE is another one", y.isGood(0, 1), false);
    }

    private static void promise16Passes() {
        Lullabygate x = Scene.openGate();
        x.sleeper(0, false, 9);
        x.sleeper(0, false, 9);
        x.sleeper(0, false, 9);
        x.sing(0, 0, 0, 5);
        x.sing(1, 0, 1, 6);
        x.sing(2, 0, 99, 7);
        x.join(0, 0, 0);
        x.pass(23);
        Check.same("this NIGHT", x.ofSleeper(0, 6), 5);
        x.pass(1);
        Check.same("an earlier NIGHT", x.ofSleeper(0, 6), Scene.NONE);
        Check.same("who stands in a QUEUE stays there", x.ofSleeper(0, 2), 1);
        Check.same("this NIGHT then", x.ofSleeper(1, 6), 6);
        x.pass(48);
        Check.same("earlier by two", x.ofSleeper(1, 6), Scene.NONE);
        Check.same("a later NIGHT", x.ofSleeper(2, 6), 7);
        Check.same("PATIENCE does not go by HOURS", x.ofSleeper(0, 1), 9);
    }
}
