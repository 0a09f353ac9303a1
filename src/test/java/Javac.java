import java.io.IOException;
import java.util.ArrayList;
import java.util.List;

/** The compiler that .ci/run uses, for tests that make a class of their own. */
final class Javac {
    private Javac() {
    }

    static int run(String... args) throws IOException {
        List<String> command = new ArrayList<>(List.of("javac"));
        command.addAll(List.of(args));
        try {
            return new ProcessBuilder(command).inheritIO().start().waitFor();
        } catch (InterruptedException e) {
            throw new IOException(e);
        }
    }
}
