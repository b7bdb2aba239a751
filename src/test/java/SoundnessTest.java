import java.lang.reflect.Field;
import java.util.ArrayList;
import java.util.List;

/** Promise 27: no call makes the night unsound, so this test breaks it from inside. */
final class SoundnessTest {
    private SoundnessTest() {
    }

    static void run() {
        Edges.of(27, "Returns whether all is SOUND", SoundnessTest::soundAsItIs);
        Edges.of(27, "who stands in a QUEUE stands in just one", SoundnessTest::breakQueues);
        Edges.of(27, "and is in one of both LANDS of that GATE", SoundnessTest::breakLand);
        Edges.of(27, "BABIES are ahead of others in all QUEUES", SoundnessTest::breakBabies);
        Edges.of(27, "QUOTAS are together 30", SoundnessTest::breakQuota);
        Edges.of(27, "PATIENCE is 0 to 9", SoundnessTest::breakPatience);
        Edges.of(27, "HIDINGS are 40 at most", SoundnessTest::breakHidings);
        Edges.of(27, "no AWAKE one has a PART.", SoundnessTest::breakHeads);
        Edges.of(28, "1 if isSound(), otherwise 0.", SoundnessTest::breakQuota);
    }

    private static void soundAsItIs() {
        Check.same("a new object", new Lullabygate().isSound(), true);
        Check.same("a full one", Scene.full().isSound(), true);
        Check.same("with one AWAKE", begun().isSound(), true);
    }

    /** SLEEPER 0 and the BABY 1 stand at GATE 0, 2 is AT REST, 3 is AWAKE; GATE 1 is at LAND 0 too. */
    private static Lullabygate begun() {
        Lullabygate x = Scene.openGate();
        x.gate(0, 2, 0, 24);
        for (int k = 0; k < 4; k++) {
            x.sleeper(0, k == 1, k == 3 ? 1 : 9);
        }
        x.part(2, 0, 1, 0);
        x.join(2, 1, 0);
        x.join(3, 1, 0);
        x.yawn(1);
        x.join(0, 0, 0);
        x.join(1, 0, 0);
        return x;
    }

    private static void unsound(String what, Lullabygate x) {
        Check.same(what + ": sound", x.isSound(), false);
        Check.same(what + ": digest", x.digest(), DigestTest.due(x));
    }

    private static void breakQuota() {
        for (int land = 0; land < 6; land++) {
            Lullabygate x = begun();
            Object[] lands = (Object[]) inside(x, "lands");
            put(lands[land], "quota", 4);
            unsound("a QUOTA less at " + land, x);
        }
    }

    private static void breakPatience() {
        for (int patience : new int[] {-1, 10}) {
            for (int sleeper = 0; sleeper < 4; sleeper++) {
                Lullabygate x = begun();
                put(list(x, "sleepers").get(sleeper), "patience", patience);
                unsound("PATIENCE " + patience + " of " + sleeper, x);
            }
        }
        for (int patience : new int[] {0, 9}) {
            Lullabygate x = begun();
            put(list(x, "sleepers").get(2), "patience", patience);
            Check.same("PATIENCE " + patience, x.isSound(), true);
        }
    }

    private static void breakLand() {
        Lullabygate x = begun();
        Object[] lands = (Object[]) inside(x, "lands");
        put(list(x, "sleepers").get(0), "land", lands[2]);
        unsound("in no LAND of that GATE", x);
        put(list(x, "sleepers").get(0), "land", lands[1]);
        Check.same("in the other LAND of it", x.isSound(), true);
        put(list(x, "sleepers").get(2), "land", lands[5]);
        Check.same("who stands nowhere may be anywhere", x.isSound(), true);
    }

    private static void breakQueues() {
        Lullabygate x = begun();
        Object standing = list(x, "sleepers").get(0);
        line(x, 1).add(standing);
        unsound("in two QUEUES", x);
        line(x, 1).clear();
        line(x, 0).add(standing);
        unsound("twice in one QUEUE", x);
        line(x, 0).remove(2);
        Check.same("once again", x.isSound(), true);
        line(x, 0).remove(1);
        unsound("in no QUEUE", x);
        Lullabygate y = begun();
        line(y, 1).add(list(y, "sleepers").get(2));
        unsound("AT REST and in a QUEUE", y);
    }

    private static void breakBabies() {
        Lullabygate x = begun();
        List<Object> line = line(x, 0);
        line.add(line.remove(0));
        unsound("a BABY at the end", x);
        Lullabygate y = Scene.openGate();
        y.gate(0, 2, 0, 24);
        for (int k = 0; k < 4; k++) {
            y.sleeper(0, k == 3, 9);
            y.join(k, 1, 0);
        }
        Check.same("a BABY ahead", y.isSound(), true);
        List<Object> other = line(y, 1);
        other.add(2, other.remove(0));
        unsound("a BABY in the middle of another QUEUE", y);
    }

    private static void breakHidings() {
        Lullabygate x = Scene.openGate();
        x.sleeper(0, false, 9);
        x.part(0, 5, 1, 0);
        Scene.cross(x, 0, 0, 0);
        List<Object> hidings = list(x, "hidings");
        while (hidings.size() < 40) {
            hidings.add(hidings.get(0));
        }
        Check.same("40 HIDINGS", x.isSound(), true);
        hidings.add(hidings.get(0));
        unsound("41 HIDINGS", x);
    }

    private static void breakHeads() {
        Lullabygate x = begun();
        put(list(x, "parts").get(0), "head", list(x, "sleepers").get(3));
        unsound("an AWAKE one has a PART", x);
    }

    @SuppressWarnings("unchecked")
    private static List<Object> list(Object owner, String name) {
        return (ArrayList<Object>) inside(owner, name);
    }

    private static List<Object> line(Lullabygate x, int gate) {
        return list(list(x, "gates").get(gate), "line");
    }

    private static Object inside(Object owner, String name) {
        try {
            return field(owner, name).get(owner);
        } catch (ReflectiveOperationException e) {
            throw new IllegalStateException(e);
        }
    }

    private static void put(Object owner, String name, Object value) {
        try {
            field(owner, name).set(owner, value);
        } catch (ReflectiveOperationException e) {
            throw new IllegalStateException(e);
        }
    }

    private static Field field(Object owner, String name) throws NoSuchFieldException {
        Field field = owner.getClass().getDeclaredField(name);
        field.setAccessible(true);
        return field;
    }
}
