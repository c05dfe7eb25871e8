import java.io.IOException;
import java.nio.file.Files;
import java.nio.file.Path;
import java.util.ArrayList;
import java.util.List;
import java.util.stream.Stream;

/** Where the project and what is shared with it stand. */
final class Checkout {
    /** As .ci/run tells it; a test that is started by hand is started where README.md says. */
    static final Path ROOT = Path.of(System.getProperty("valuemill.root", ".")).toAbsolutePath().normalize();
    static final Path SHARED = ROOT.resolve("../shared");
    static final Path DOCUMENT = SHARED.resolve("DOC.md");
    static final Path README = ROOT.resolve("README.md");
    static final Path SOURCE = ROOT.resolve("src/main/java/ValueMill.java");
    static final Path TESTS = ROOT.resolve("src/test/java");

    private Checkout() {
    }

    /** The files of a directory and of those in it. */
    static List<Path> filesUnder(Path directory) throws IOException {
        try (Stream<Path> found = Files.walk(directory)) {
            return new ArrayList<>(found.filter(Files::isRegularFile).sorted().toList());
        }
    }
}
