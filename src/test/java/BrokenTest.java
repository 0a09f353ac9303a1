import java.io.File;
import java.io.IOException;
import java.lang.reflect.Method;
import java.net.URL;
import java.net.URLClassLoader;
import java.nio.file.Files;
import java.nio.file.Path;
import java.util.ArrayList;
import java.util.Comparator;
import java.util.List;
import java.util.stream.Stream;

/**
 * For each promise a test fails if the promise is broken: the class is put behind a face of the same name that breaks one
 * promise on purpose, and the tests of the boundary cases are run on that, once for each way to break one.
 */
public final class BrokenTest {
    private static String faceOf(Method m) {
        List<String> takes = new ArrayList<>();
        List<String> hands = new ArrayList<>();
        List<String> numbers = new ArrayList<>();
        for (Class<?> type : m.getParameterTypes()) {
            int i = takes.size();
            boolean yesOrNo = type == boolean.class;
            takes.add(type.getName() + " a" + i);
            numbers.add(", a" + i + (yesOrNo ? " ? 1 : 0" : ""));
            hands.add(yesOrNo ? "x[" + i + "] == 1" : "(" + type.getName() + ") x[" + i + "]");
        }
        String returns = m.getReturnType().getName();
        return "    public " + returns + " " + m.getName() + "(" + String.join(", ", takes) + ") {\n"
            + "        return (" + returns + ") watch.call(\"" + m.getName() + "\", x -> sound." + m.getName() + "("
            + String.join(", ", hands) + ")" + String.join("", numbers) + ");\n    }\n";
    }

    private static String face() {
        StringBuilder text = new StringBuilder("public final class DigHouse {\n");
        text.append("    public static final int BAD = -1, STATE = -2, FULL = -3, RING = -4, NONE = -5;\n");
        text.append("    private final Sound sound = new Sound();\n");
        text.append("    private final Watch watch = new Watch(sound::count, sound::status, sound::undo, sound::unit, sound::first);\n");
        for (Method m : DigHouse.class.getMethods()) {
            if (m.getDeclaringClass() == DigHouse.class) {
                text.append(faceOf(m));
            }
        }
        return text.append("}\n").toString();
    }

    private static boolean compile(Path room) throws IOException {
        String sound = Files.readString(Path.of("src/main/java/DigHouse.java")).replaceAll("\\bDigHouse\\b", "Sound");
        Files.writeString(room.resolve("Sound.java"), sound);
        Files.writeString(room.resolve("DigHouse.java"), face());
        return Javac.run("-d", room.toString(), "-cp", room.toString(), "-sourcepath", room + File.pathSeparator + "src/test/java",
            room + "/DigHouse.java", "src/test/java/Breaks.java") == 0;
    }

    private static List<?> unfound(Path room) throws IOException, ReflectiveOperationException {
        URL[] where = {room.toUri().toURL()};
        try (URLClassLoader loader = new URLClassLoader(where, ClassLoader.getPlatformClassLoader())) {
            Method m = loader.loadClass("Breaks").getDeclaredMethod("unfound");
            m.setAccessible(true);
            return (List<?>) m.invoke(null);
        }
    }

    private static void remove(Path room) throws IOException {
        try (Stream<Path> all = Files.walk(room)) {
            for (Path p : all.sorted(Comparator.reverseOrder()).toList()) {
                Files.delete(p);
            }
        }
    }

    /** How many ways to break a promise no test finds. */
    private static int trial(Path room) throws IOException, ReflectiveOperationException {
        if (!compile(room)) {
            System.out.println("BrokenTest: the broken face does not compile");
            return 1;
        }
        List<?> unfound = unfound(room);
        for (Object u : unfound) {
            System.out.println("BrokenTest: no test finds " + u);
        }
        return unfound.size();
    }

    public static void main(String[] args) throws IOException, ReflectiveOperationException {
        Path room = Files.createTempDirectory("broken");
        int unfound;
        try {
            unfound = trial(room);
        } finally {
            remove(room);
        }
        if (unfound != 0) {
            System.exit(1);
        }
    }
}
