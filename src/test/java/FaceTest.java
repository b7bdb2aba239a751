import java.lang.reflect.Constructor;
import java.lang.reflect.Field;
import java.lang.reflect.Method;
import java.lang.reflect.Modifier;
import java.util.ArrayList;
import java.util.Arrays;
import java.util.List;
import java.util.TreeSet;

/** Promise 1, and that the face is the document's and no wider. */
final class FaceTest {
    private static final String[] FACE = {
        "int land(int, int, int)", "int trade(int, int, int)", "int gate(int, int, int, int)", "int odds(int, int)",
        "int relieve(int)", "int sleeper(int, boolean, int)", "int part(int, int, int, int)", "int give(int, int)",
        "int sing(int, int, int, int)", "boolean revoke(int, int)", "int join(int, int, int)", "int leave(int)",
        "int yawn(int)", "boolean appeal(int)", "int pass(int)", "int ofLand(int, int)", "int ofGate(int, int)",
        "int ofSleeper(int, int)", "int ofPart(int, int)", "boolean isGood(int, int)", "String queue(int)",
        "int night(int)", "int way(int, int)", "int plan(int, int)", "int wouldPay(int)", "boolean isSound()",
        "long digest()"
    };

    private FaceTest() {
    }

    static void run() {
        promise1NewObject();
        faceIsTheDocuments();
        namesOfTheFaceAreItsOwn();
        staticFieldsAreFinal();
    }

    private static void promise1NewObject() {
        Lullabygate x = new Lullabygate();
        for (int what = 0; what <= 16; what++) {
            Check.same("new: night(" + what + ")", x.night(what), 0);
        }
        int[] ofLand = {10, 20, 5, 0, 0, 0, 0, 0, 0};
        for (int land = 0; land < 6; land++) {
            for (int what = 0; what <= 8; what++) {
                Check.same("new: ofLand(" + land + ", " + what + ")", x.ofLand(land, what), ofLand[what]);
            }
        }
        Check.noSuch(x, "new: ofGate", () -> x.ofGate(0, 0));
        Check.noSuch(x, "new: ofSleeper", () -> x.ofSleeper(0, 0));
        Check.noSuch(x, "new: ofPart", () -> x.ofPart(0, 0));
        Check.same("new: isSound", x.isSound(), true);
        Lullabygate y = new Lullabygate();
        y.land(0, 1, 1);
        Check.same("objects share nothing", x.ofLand(0, 0), 10);
    }

    private static void faceIsTheDocuments() {
        TreeSet<String> found = new TreeSet<>();
        for (Method m : Lullabygate.class.getDeclaredMethods()) {
            if (!Modifier.isPrivate(m.getModifiers())) {
                found.add(signature(m));
            }
        }
        Check.same("the methods of the face", found, new TreeSet<>(Arrays.asList(FACE)));
        Constructor<?>[] makers = Lullabygate.class.getDeclaredConstructors();
        Check.same("one constructor", makers.length, 1);
        Check.same("without parameters", makers[0].getParameterCount(), 0);
        for (Field f : Lullabygate.class.getDeclaredFields()) {
            Check.same(f.getName() + " is private", Modifier.isPrivate(f.getModifiers()), true);
        }
        Check.same("the class", Modifier.toString(Lullabygate.class.getModifiers()), "public final");
    }

    private static String signature(Method m) {
        List<String> types = new ArrayList<>();
        for (Class<?> type : m.getParameterTypes()) {
            types.add(type.getSimpleName());
        }
        return m.getReturnType().getSimpleName() + " " + m.getName() + "(" + String.join(", ", types) + ")";
    }

    private static void namesOfTheFaceAreItsOwn() {
        TreeSet<String> face = new TreeSet<>();
        for (String signature : FACE) {
            face.add(signature.substring(signature.indexOf(' ') + 1, signature.indexOf('(')));
        }
        List<String> taken = new ArrayList<>();
        for (Class<?> type : allClasses()) {
            for (Method m : type.getDeclaredMethods()) {
                if (!Modifier.isPublic(m.getModifiers()) && face.contains(m.getName())) {
                    taken.add(type.getSimpleName() + "." + m.getName());
                }
            }
        }
        Check.same("methods with a name of the face", taken, List.of());
    }

    private static void staticFieldsAreFinal() {
        for (Class<?> type : allClasses()) {
            for (Field f : type.getDeclaredFields()) {
                boolean isFine = !Modifier.isStatic(f.getModifiers()) || Modifier.isFinal(f.getModifiers());
                Check.same(f.getName() + " is no static state", isFine, true);
            }
        }
    }

    private static List<Class<?>> allClasses() {
        List<Class<?>> all = new ArrayList<>(Arrays.asList(Lullabygate.class.getDeclaredClasses()));
        all.add(Lullabygate.class);
        return all;
    }
}
