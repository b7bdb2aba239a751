/** Edges of the terms 5, and of the promise 16. */
final class HourEdges {
    private static final Class<?> BAD = IllegalArgumentException.class;

    private HourEdges() {
    }

    static void run() {
        Edges.of(0, "HOUR is 1 more (behind 23: 0, and NIGHT is 1 more", HourEdges::behind23);
        Edges.of(0, "no NIGHTMARES came to any LAND yet", HourEdges::noNightmaresYet);
        Edges.of(0, "PASSES of earlier NIGHTS are gone)", HourEdges::passesOfEarlierNights);
        Edges.of(0, "REVOKED VERSES spread (3)", HourEdges::spreadingHourByHour);
        Edges.of(0, "WATCH of each GATE that is OPEN then is 1 more, otherwise it is 0.", HourEdges::watches);
        Edges.of(16, "Lets HOURS go by, one by one.", HourEdges::oneByOne);
        Edges.of(16, "Returns HOUR then.", HourEdges::behind23);
        Edges.of(16, "Throws IllegalArgumentException if hours is not 1 to 48", HourEdges::from1To48);
        Edges.of(16, "Throws IllegalStateException if NIGHT would be above 99", HourEdges::upToNight99);
    }

    private static void behind23() {
        Lullabygate x = new Lullabygate();
        Check.same("to 23", x.pass(23), 23);
        Check.same("NIGHT", x.night(0), 0);
        Check.same("behind 23", x.pass(1), 0);
        Check.same("NIGHT then", x.night(0), 1);
        Check.same("a whole NIGHT", x.pass(24), 0);
        Check.same("NIGHT behind it", x.night(0), 2);
        x.pass(23);
        Check.same("48 from 23 on", x.pass(48), 23);
        Check.same("NIGHT behind them", x.night(0), 4);
        Check.same("25 from 23 on", x.pass(25), 0);
        Check.same("two NIGHTS begin in these", x.night(0), 6);
    }

    private static void noNightmaresYet() {
        Lullabygate x = Scene.openGate();
        x.gate(0, 5, 0, 24);
        x.sleeper(1, false, 9);
        x.sleeper(0, false, 9);
        x.part(0, 0, 0, 5);
        x.part(1, 0, 0, 5);
        Scene.toHour(x, 22);
        Scene.cross(x, 0, 0, 1);
        Scene.cross(x, 1, 1, 2);
        x.pass(1);
        Check.same("at 23, the first LAND", x.ofLand(0, 3), 1);
        Check.same("at 23, the last LAND", x.ofLand(5, 3), 1);
        x.pass(1);
        Check.same("at 0, the first LAND", x.ofLand(0, 3), 0);
        Check.same("at 0, the last LAND", x.ofLand(5, 3), 0);
    }

    private static void passesOfEarlierNights() {
        Lullabygate x = Scene.openGate();
        for (int k = 0; k < 12; k++) {
            x.sleeper(0, false, 9);
            x.sing(k, 0, k % 3, 50 + k);
        }
        x.pass(23);
        Check.same("at 23", x.ofSleeper(0, 6), 50);
        x.pass(1);
        for (int k = 0; k < 12; k++) {
            Check.same("on NIGHT 1, one of NIGHT " + k % 3, x.ofSleeper(k, 6), k % 3 == 0 ? -1 : 50 + k);
        }
        x.pass(24);
        for (int k = 0; k < 12; k++) {
            Check.same("on NIGHT 2, one of NIGHT " + k % 3, x.ofSleeper(k, 6), k % 3 == 2 ? 50 + k : -1);
        }
    }

    private static void spreadingHourByHour() {
        Lullabygate x = new Lullabygate();
        for (int k = 0; k < 5; k++) {
            x.gate(k, k + 1, 0, 1);
        }
        x.revoke(0, 96);
        x.pass(3);
        for (int k = 0; k < 5; k++) {
            Check.same("three HOURS in one call, at " + k, x.ofGate(k, 9), k <= 3 ? 1 : 0);
        }
        x.pass(48);
        Check.same("to the last GATE", x.ofGate(4, 9), 1);
        Check.same("none is taken back", x.ofGate(0, 9), 1);
    }

    private static void watches() {
        Lullabygate x = new Lullabygate();
        x.gate(0, 1, 22, 3);
        x.gate(0, 1, 0, 24);
        x.gate(0, 1, 0, 1);
        x.pass(21);
        int[][] due = {{0, 21, 0}, {1, 22, 0}, {2, 23, 0}, {3, 24, 1}, {0, 25, 0}};
        for (int k = 0; k < due.length; k++) {
            for (int gate = 0; gate < 3; gate++) {
                Check.same("WATCH of " + gate + ", " + k + " behind 21", x.ofGate(gate, 4), due[k][gate]);
            }
            x.pass(1);
        }
        x.pass(48);
        Check.same("a WATCH that never ends", x.ofGate(1, 4), 74);
        Lullabygate shut = new Lullabygate();
        shut.gate(0, 1, 0, 5);
        shut.pass(4);
        Check.same("4 in the last HOUR", shut.ofGate(0, 4), 4);
        shut.pass(1);
        Check.same("0 as it shuts", shut.ofGate(0, 4), 0);
        shut.pass(19);
        Check.same("1 as it opens again", shut.ofGate(0, 4), 1);
    }

    private static void oneByOne() {
        Lullabygate once = Scene.full();
        Lullabygate singly = Scene.full();
        for (Lullabygate x : new Lullabygate[] {once, singly}) {
            x.revoke(3, 33);
            x.sing(0, 0, 0, 0);
            x.sing(1, 0, 1, 20);
        }
        once.pass(48);
        for (int k = 0; k < 48; k++) {
            singly.pass(1);
        }
        Check.same("48 at once are 48 single ones", once.digest(), singly.digest());
    }

    private static void from1To48() {
        Lullabygate x = new Lullabygate();
        Check.same("1", x.pass(1), 1);
        Check.same("48", x.pass(48), 1);
        Check.outside(x, "hours", 1, 48, BAD, hours -> x.pass(hours));
        Check.same("HOUR stays", x.night(1), 1);
    }

    private static void upToNight99() {
        Lullabygate x = new Lullabygate();
        Scene.toNight(x, 98);
        Check.badState(x, "48 from NIGHT 98, HOUR 0 on", () -> x.pass(48));
        Check.same("47 from there on", x.pass(47), 23);
        Check.same("NIGHT 99", x.night(0), 99);
        Check.badState(x, "1 from its last HOUR on", () -> x.pass(1));
        Lullabygate y = new Lullabygate();
        Scene.toNight(y, 98);
        y.pass(23);
        Check.badState(y, "26 from NIGHT 98, HOUR 23 on", () -> y.pass(26));
        Check.badState(y, "25 from there on", () -> y.pass(25));
        Check.same("1 from there on", y.pass(1), 0);
        Check.badState(y, "24 from NIGHT 99, HOUR 0 on", () -> y.pass(24));
        Check.same("23 from there on", y.pass(23), 23);
        Check.same("NIGHT 99 at most", y.night(0), 99);
    }
}
