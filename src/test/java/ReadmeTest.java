import java.io.IOException;
import java.io.UncheckedIOException;
import java.lang.reflect.Method;
import java.lang.reflect.Modifier;
import java.nio.file.Files;
import java.nio.file.Path;

/** That README.md tells of every call, and that its first steps answer what it says. */
final class ReadmeTest {
    private ReadmeTest() {
    }

    static void run() {
        everyCallIsTold();
        firstStepsHold();
    }

    private static void everyCallIsTold() {
        String readme = readme();
        for (Method m : Lullabygate.class.getDeclaredMethods()) {
            if (Modifier.isPublic(m.getModifiers())) {
                Check.same("README.md tells of " + m.getName(), readme.contains("`" + m.getName() + "("), true);
            }
        }
    }

    private static void firstStepsHold() {
        String readme = readme();
        Lullabygate x = new Lullabygate();
        says(readme, "int gate = x.gate(0, 1, 0, 24);");
        int gate = x.gate(0, 1, 0, 24);
        says(readme, "int sleeper = x.sleeper(0, false, 9);");
        int sleeper = x.sleeper(0, false, 9);
        says(readme, "int part = x.part(sleeper, 3, 40, 0);");
        int part = x.part(sleeper, 3, 40, 0);
        says(readme, "x.sing(sleeper, gate, 0, 0);                // a pass for night 0 (0 is its right verse)");
        Check.same("README.md: sing", x.sing(sleeper, gate, 0, 0), 0);
        says(readme, "x.join(sleeper, gate, 1 << part);");
        x.join(sleeper, gate, 1 << part);
        says(readme, "x.wouldPay(gate);                           // 2: ");
        Check.same("README.md: wouldPay", x.wouldPay(gate), 2);
        says(readme, "x.yawn(gate);                               // 0 parts were caught");
        Check.same("README.md: yawn", x.yawn(gate), 0);
        says(readme, "x.ofLand(1, 4);                             // 2: the duties of land 1");
        Check.same("README.md: ofLand", x.ofLand(1, 4), 2);
    }

    private static void says(String readme, String line) {
        Check.same("README.md says " + line, readme.contains("\n" + line), true);
    }

    private static String readme() {
        try {
            return Files.readString(Path.of("README.md"));
        } catch (IOException e) {
            throw new UncheckedIOException(e);
        }
    }
}
