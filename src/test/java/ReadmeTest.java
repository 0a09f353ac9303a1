import java.io.IOException;
import java.lang.reflect.Method;
import java.net.URL;
import java.net.URLClassLoader;
import java.nio.file.Files;
import java.nio.file.Path;
import java.util.ArrayList;
import java.util.List;
import java.util.Set;
import java.util.TreeSet;
import java.util.regex.Matcher;
import java.util.regex.Pattern;
import java.util.stream.Stream;

/** What README.md says is so: its calls answer what stands behind them, and it names the tests that there are. */
public final class ReadmeTest {
    private static final Check CHECK = new Check("ReadmeTest");
    private static final Pattern CALL = Pattern.compile("int (\\w+) = dig\\..*;\\s*// (-?\\d+): .*");

    private static String blockOf(String readme, String language) {
        int from = readme.indexOf("```" + language + "\n") + language.length() + 4;
        return readme.substring(from, readme.indexOf("```", from));
    }

    /** The lines of the example, and behind them a row of what they answered. */
    private static List<Long> run(String example, List<String> names) throws IOException, ReflectiveOperationException {
        Path room = Files.createTempDirectory("readme");
        Path file = room.resolve("Example.java");
        Files.writeString(file, "public class Example {\n    public static long[] run() {\n" + example
            + "        return new long[] {" + String.join(", ", names) + "};\n    }\n}\n");
        int failed = Javac.run("-d", room.toString(), "-cp", System.getProperty("java.class.path"), file.toString());
        CHECK.due("the compiler on the example of README.md", failed, 0);
        List<Long> got = new ArrayList<>();
        if (failed == 0) {
            try (URLClassLoader loader = new URLClassLoader(new URL[] {room.toUri().toURL()})) {
                Method m = loader.loadClass("Example").getMethod("run");
                for (long answer : (long[]) m.invoke(null)) {
                    got.add(answer);
                }
            }
        }
        Files.deleteIfExists(room.resolve("Example.class"));
        Files.delete(file);
        Files.delete(room);
        return got;
    }

    private static void example(String readme) throws IOException, ReflectiveOperationException {
        String example = blockOf(readme, "java");
        List<String> names = new ArrayList<>();
        List<Long> want = new ArrayList<>();
        for (String line : example.split("\n")) {
            Matcher m = CALL.matcher(line);
            if (m.matches()) {
                names.add(m.group(1));
                want.add(Long.parseLong(m.group(2)));
            }
        }
        CHECK.due("how many calls the example has", names.size(), example.split("\n").length - 1);
        List<Long> got = run(example, names);
        for (int i = 0; i < got.size(); i++) {
            CHECK.due("the call for " + names.get(i), got.get(i), want.get(i));
        }
    }

    private static void tests(String readme) throws IOException {
        Set<String> named = new TreeSet<>();
        Matcher m = Pattern.compile("`(\\w+Test)`").matcher(readme);
        while (m.find()) {
            named.add(m.group(1));
        }
        Set<String> there = new TreeSet<>();
        try (Stream<Path> all = Files.list(Path.of("src/test/java"))) {
            for (Path p : all.toList()) {
                String name = p.getFileName().toString();
                if (name.endsWith("Test.java")) {
                    there.add(name.substring(0, name.length() - 5));
                }
            }
        }
        CHECK.due("whether README.md names " + there + " and not " + named, named.equals(there) ? 1 : 0, 1);
    }

    public static void main(String[] args) throws IOException, ReflectiveOperationException {
        String readme = Files.readString(Path.of("README.md"));
        example(readme);
        tests(readme);
        CHECK.end();
    }
}
