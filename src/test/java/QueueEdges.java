/** Edges of JOIN and LEAVE in the terms 4, and of the promises 12, 13 and 22. */
final class QueueEdges {
    private static final Class<?> NO_SUCH = IndexOutOfBoundsException.class;

    private QueueEdges() {
    }

    static void run() {
        Edges.of(0, "To JOIN: a SLEEPER AT REST, in one of both LANDS of a GATE, goes to its QUEUE",
            QueueEdges::fromBothLandsAlone);
        Edges.of(0, "tells which of the PARTS in its HEAD it DECLARES; the others are HIDDEN",
            QueueEdges::declaresNoneToAll);
        Edges.of(0, "A BABY stands behind the last BABY there", QueueEdges::babies);
        Edges.of(0, "all others at the end.", QueueEdges::othersAtTheEnd);
        Edges.of(0, "To LEAVE a QUEUE: it is AT REST again.", QueueEdges::leavesAtRest);
        Edges.of(12, "Returns its place in the QUEUE (from 0 on).", QueueEdges::placesFrom0To11);
        Edges.of(12, "Throws IndexOutOfBoundsException if there is no such SLEEPER, or GATE",
            QueueEdges::joinOutside);
        Edges.of(12, "Throws IllegalArgumentException if declares has a PART that is not in that HEAD",
            QueueEdges::declaresWhatIsNotInTheHead);
        Edges.of(12, "or is below 0", QueueEdges::declaresBelow0);
        Edges.of(12, "Throws IllegalStateException if it is not AT REST", QueueEdges::joinNotAtRest);
        Edges.of(12, "or not in one of both LANDS", QueueEdges::fromBothLandsAlone);
        Edges.of(13, "Returns its place in it ahead.", QueueEdges::placeAhead);
        Edges.of(13, "Throws IndexOutOfBoundsException if there is no such SLEEPER", QueueEdges::leaveOutside);
        Edges.of(13, "Throws IllegalStateException if it stands in none", QueueEdges::leavesNone);
        Edges.of(22, "the numbers of SLEEPERS with \" \" between, \"b\" behind each BABY (\"3b 0 7\")",
            QueueEdges::queueTexts);
        Edges.of(22, "\"-\" without any", QueueEdges::queueOfNobody);
        Edges.of(22, "Throws IndexOutOfBoundsException if there is no such GATE", QueueEdges::queueOutside);
    }

    private static void fromBothLandsAlone() {
        Lullabygate x = new Lullabygate();
        x.gate(2, 4, 12, 1);
        for (int land = 0; land <= 5; land++) {
            x.sleeper(land, false, 9);
        }
        for (int land = 0; land <= 5; land++) {
            int sleeper = land;
            if (land == 2 || land == 4) {
                Check.same("from LAND " + land, x.join(sleeper, 0, 0), land / 2 - 1);
            } else {
                Check.badState(x, "from LAND " + land, () -> x.join(sleeper, 0, 0));
            }
        }
    }

    private static void declaresNoneToAll() {
        Lullabygate x = Scene.openGate();
        x.sleeper(0, false, 9);
        Check.same("none of an empty HEAD", x.join(0, 0, 0), 0);
        Check.same("nothing HIDDEN", x.ofGate(0, 8), 0);
        x.leave(0);
        for (int k = 0; k < 24; k++) {
            x.part(0, 0, 99, 0);
        }
        x.join(0, 0, 0);
        Check.same("all are HIDDEN", x.ofGate(0, 8), 24 * 99);
        x.leave(0);
        x.join(0, 0, (1 << 24) - 2);
        Check.same("the first one is HIDDEN", x.ofGate(0, 8), 99);
        x.leave(0);
        x.join(0, 0, (1 << 24) - 1);
        Check.same("none is HIDDEN", x.ofGate(0, 8), 0);
    }

    private static void babies() {
        Lullabygate x = Scene.openGate();
        for (int k = 0; k < 6; k++) {
            x.sleeper(0, k < 4, 9);
        }
        Check.same("in an empty QUEUE", x.join(3, 0, 0), 0);
        Check.same("behind a BABY", x.join(2, 0, 0), 1);
        x.join(4, 0, 0);
        x.join(5, 0, 0);
        Check.same("behind BABIES, ahead of others", x.join(1, 0, 0), 2);
        x.leave(1);
        x.leave(2);
        x.leave(3);
        Check.same("ahead of all, where no BABY stands", x.join(0, 0, 0), 0);
        Check.same("the QUEUE", x.queue(0), "0b 4 5");
    }

    private static void othersAtTheEnd() {
        Lullabygate x = Scene.openGate();
        for (int k = 0; k < 6; k++) {
            x.sleeper(0, k < 2, 9);
        }
        Check.same("in an empty QUEUE", x.join(5, 0, 0), 0);
        x.join(0, 0, 0);
        Check.same("behind a BABY and another one", x.join(4, 0, 0), 2);
        x.leave(5);
        x.leave(4);
        Check.same("behind a BABY alone", x.join(3, 0, 0), 1);
        Check.same("the QUEUE", x.queue(0), "0b 3");
    }

    private static void leavesAtRest() {
        Lullabygate x = Scene.openGate();
        x.sleeper(0, false, 9);
        x.sleeper(0, false, 9);
        x.part(0, 0, 50, 0);
        x.join(0, 0, 0);
        x.join(1, 0, 0);
        x.leave(0);
        Check.same("AT REST", x.ofSleeper(0, 2), 0);
        Check.same("nothing is HIDDEN", x.ofGate(0, 8), 0);
        Check.same("a PART is told in its HEAD", x.part(0, 0, 1, 0), 1);
        Check.same("it stands at the end then", x.join(0, 0, 3), 1);
        Check.same("and what it DECLARES is told anew", x.ofGate(0, 8), 0);
    }

    private static void placesFrom0To11() {
        Lullabygate x = Scene.openGate();
        for (int k = 0; k < 12; k++) {
            x.sleeper(0, false, 9);
        }
        for (int k = 0; k < 12; k++) {
            Check.same("the place", x.join(k, 0, 0), k);
            Check.same("as it is asked", x.ofSleeper(k, 4), k);
        }
        Check.same("all stand there", x.ofGate(0, 6), 12);
    }

    private static void joinOutside() {
        Lullabygate x = new Lullabygate();
        x.gate(0, 1, 0, 24);
        Check.noSuch(x, "SLEEPER 0 of none", () -> x.join(0, 0, 0));
        Lullabygate y = new Lullabygate();
        y.sleeper(0, false, 9);
        Check.noSuch(y, "GATE 0 of none", () -> y.join(0, 0, 0));
        Lullabygate full = Scene.full();
        Check.outside(full, "SLEEPER", 0, 11, NO_SUCH, sleeper -> full.join(sleeper, 0, 0));
        Check.outside(full, "GATE", 0, 7, NO_SUCH, gate -> full.join(11, gate, 0));
        Check.same("the last ones", full.join(11, 7, 0), 0);
    }

    private static void declaresWhatIsNotInTheHead() {
        Lullabygate x = Scene.openGate();
        x.odds(0, 10);
        x.sleeper(0, false, 9);
        x.sleeper(0, false, 9);
        Check.badArgument(x, "PART 0 of none", () -> x.join(0, 0, 1));
        x.part(0, 0, 1, 0);
        x.part(1, 0, 1, 0);
        Check.badArgument(x, "another one's", () -> x.join(0, 0, 2));
        Check.badArgument(x, "another one's too", () -> x.join(0, 0, 3));
        Check.badArgument(x, "PART 2 of two", () -> x.join(0, 0, 4));
        Check.badArgument(x, "number 24, which no PART can have", () -> x.join(0, 0, 1 << 24));
        Check.badArgument(x, "number 30", () -> x.join(0, 0, 1 << 30));
        Check.badArgument(x, "the greatest int", () -> x.join(0, 0, Integer.MAX_VALUE));
        Check.same("its own", x.join(0, 0, 1), 0);
        x.leave(0);
        Scene.cross(x, 0, 0, 0);
        Check.badArgument(x, "what is in a STORE", () -> x.join(0, 0, 1));
    }

    private static void declaresBelow0() {
        Lullabygate x = Scene.openGate();
        x.sleeper(0, false, 9);
        for (int k = 0; k < 24; k++) {
            x.part(0, 0, 1, 0);
        }
        Check.badArgument(x, "-1", () -> x.join(0, 0, -1));
        Check.badArgument(x, "the least int", () -> x.join(0, 0, Integer.MIN_VALUE));
        Check.badArgument(x, "the least int and PART 0", () -> x.join(0, 0, Integer.MIN_VALUE + 1));
        Check.same("0", x.join(0, 0, 0), 0);
    }

    private static void joinNotAtRest() {
        Lullabygate x = Scene.openGate();
        x.gate(0, 2, 0, 24);
        x.sleeper(0, false, 1);
        x.join(0, 0, 0);
        Check.badState(x, "the same QUEUE again", () -> x.join(0, 0, 0));
        Check.badState(x, "a second QUEUE", () -> x.join(0, 1, 0));
        x.leave(0);
        Check.same("another QUEUE then", x.join(0, 1, 0), 0);
        x.leave(0);
        Scene.wake(x, 0, 0);
        Check.badState(x, "AWAKE", () -> x.join(0, 0, 0));
    }

    private static void placeAhead() {
        Lullabygate x = Scene.openGate();
        for (int k = 0; k < 4; k++) {
            x.sleeper(0, false, 9);
            x.join(k, 0, 0);
        }
        Check.same("the last one", x.leave(3), 3);
        Check.same("the first one", x.leave(0), 0);
        Check.same("who has moved up", x.leave(2), 1);
        Check.same("the only one", x.leave(1), 0);
        Check.same("nobody is left", x.ofGate(0, 6), 0);
    }

    private static void leaveOutside() {
        Lullabygate x = new Lullabygate();
        Check.noSuch(x, "SLEEPER 0 of none", () -> x.leave(0));
        x.sleeper(0, false, 9);
        Check.outside(x, "SLEEPER", 0, 0, NO_SUCH, sleeper -> x.leave(sleeper));
        Lullabygate full = Scene.full();
        Check.outside(full, "SLEEPER", 0, 11, NO_SUCH, sleeper -> full.leave(sleeper));
        full.join(11, 7, 0);
        Check.same("the last SLEEPER", full.leave(11), 0);
    }

    private static void leavesNone() {
        Lullabygate x = Scene.openGate();
        x.sleeper(0, false, 1);
        Check.badState(x, "AT REST", () -> x.leave(0));
        x.join(0, 0, 0);
        x.leave(0);
        Check.badState(x, "a second time", () -> x.leave(0));
        x.join(0, 0, 0);
        x.yawn(0);
        Check.badState(x, "sent back", () -> x.leave(0));
        Scene.cross(x, 0, 0, 0);
        Check.badState(x, "come through", () -> x.leave(0));
        Scene.wake(x, 0, 0);
        Check.badState(x, "AWAKE", () -> x.leave(0));
    }

    private static void queueTexts() {
        Lullabygate x = Scene.openGate();
        for (int k = 0; k < 12; k++) {
            x.sleeper(0, k == 3 || k == 11, 9);
        }
        x.join(0, 0, 0);
        Check.same("one alone", x.queue(0), "0");
        x.join(7, 0, 0);
        x.join(3, 0, 0);
        Check.same("three", x.queue(0), "3b 0 7");
        x.leave(0);
        x.leave(7);
        Check.same("a BABY alone", x.queue(0), "3b");
        x.join(11, 0, 0);
        for (int k = 0; k < 11; k++) {
            if (k != 3) {
                x.join(k, 0, 0);
            }
        }
        Check.same("all", x.queue(0), "3b 11b 0 1 2 4 5 6 7 8 9 10");
    }

    private static void queueOfNobody() {
        Lullabygate x = Scene.openGate();
        Check.same("at first", x.queue(0), "-");
        x.sleeper(0, false, 9);
        x.join(0, 0, 0);
        Check.same("of one", x.queue(0), "0");
        x.yawn(0);
        Check.same("behind the last one", x.queue(0), "-");
    }

    private static void queueOutside() {
        Lullabygate x = new Lullabygate();
        Check.noSuch(x, "GATE 0 of none", () -> x.queue(0));
        Lullabygate full = Scene.full();
        Check.outside(full, "GATE", 0, 7, NO_SUCH, gate -> full.queue(gate));
        Check.same("the last GATE", full.queue(7), "-");
    }
}
