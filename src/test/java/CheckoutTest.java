import java.io.File;
import java.io.IOException;
import java.nio.file.Files;
import java.nio.file.Path;
import java.util.ArrayList;
import java.util.Comparator;
import java.util.List;
import java.util.concurrent.TimeUnit;
import java.util.regex.Matcher;
import java.util.regex.Pattern;

/**
 * That README.md says what works on a clean checkout: its example answers as it says, and each of its
 * commands ends well; and that .ci/run, the one for all tests, ends badly when a test does.
 */
public final class CheckoutTest {
    /** Told to the tests that run in the copy, so that they do not make a copy in their turn. */
    private static final String IN_COPY = "VALUEMILL_IN_COPY";
    private static final String ALL_TESTS = ".ci/run";
    private static final Pattern ANSWER =
            Pattern.compile("^(?:int|boolean) (\\w+) = .*; *// (-?\\d+|true|false)\\b.*$", Pattern.MULTILINE);
    private static final String PASSES = "System.out.println(ValueMill.class);";
    private static final String FAILS = "System.exit(1);";
    private static final String NO_JAVA = "no Java";

    private final Expect expect = new Expect();
    private final Path work;

    private CheckoutTest(Path work) {
        this.work = work;
    }

    /** A command on its way, and where what it prints goes. */
    private record Started(String what, Process process, Path out) {
    }

    public static void main(String[] args) throws IOException, InterruptedException {
        CheckoutTest test = new CheckoutTest(Files.createTempDirectory("valuemill"));
        try {
            test.tableHasEachTest();
            test.exampleAnswers();
            if (System.getenv(IN_COPY) == null) {
                test.commandsWork();
                test.failuresAreTold();
            }
        } finally {
            test.cleanUp();
        }
        test.expect.finish();
    }

    private void cleanUp() throws IOException {
        try (var found = Files.walk(work)) {
            found.sorted(Comparator.reverseOrder()).map(Path::toFile).forEach(File::delete);
        }
    }

    private static List<String> blocks(String language) throws IOException {
        List<String> found = new ArrayList<>();
        Matcher block = Pattern.compile("(?s)```" + language + "\n(.*?)```").matcher(Files.readString(Checkout.README));
        while (block.find()) {
            found.add(block.group(1));
        }
        return found;
    }

    private Started start(String what, Path in, String... command) throws IOException {
        Path out = Files.createTempFile(work, "out", ".txt");
        ProcessBuilder builder = new ProcessBuilder(command).directory(in.toFile());
        builder.environment().put(IN_COPY, "true");
        return new Started(what, builder.redirectErrorStream(true).redirectOutput(out.toFile()).start(), out);
    }

    /** What it printed. */
    private String due(Started started, boolean endsWell) throws IOException, InterruptedException {
        boolean ended = started.process.waitFor(10, TimeUnit.MINUTES);
        boolean well = ended && started.process.exitValue() == 0;
        started.process.destroyForcibly();
        String printed = Files.readString(started.out);
        if (well != endsWell) {
            System.out.println(printed);
        }
        expect.due(started.what + " ends well", well, endsWell);
        return printed;
    }

    private static List<String> testsUnder(Path directory) throws IOException {
        List<String> names = new ArrayList<>();
        for (Path file : Checkout.filesUnder(directory)) {
            String name = file.getFileName().toString();
            if (name.endsWith("Test.java") || !directory.equals(Checkout.TESTS)) {
                names.add(name.replace(".java", ""));
            }
        }
        return names;
    }

    private void tableHasEachTest() throws IOException {
        String readme = Files.readString(Checkout.README);
        for (String name : testsUnder(Checkout.TESTS)) {
            expect.due("README.md tells of " + name, readme.contains("`" + name + "`"), true);
        }
    }

    private void exampleAnswers() throws IOException, InterruptedException {
        for (String example : blocks("java")) {
            String check = "$0\nif ($1 != $2) { throw new Error(\"$1 is \" + $1); }";
            String asking = ANSWER.matcher(example).replaceAll(check);
            expect.due("the example has answers", asking.equals(example), false);
            write(work, "Example", asking);
            String source = Checkout.SOURCE.toString();
            due(start("compiling the example", work, "javac", "-d", "example", source, "Example.java"), true);
            due(start("the example", work, "java", "-cp", "example", "Example"), true);
        }
        expect.due("README.md has an example", blocks("java").isEmpty(), false);
    }

    private static String program(String name, String body) {
        return "public final class " + name + " {\npublic static void main(String[] args) {\n" + body + "\n}\n}\n";
    }

    /** Nothing is needed but what is copied here, and ../shared beside it. */
    private void commandsWork() throws IOException, InterruptedException {
        Path copy = Files.createDirectories(work.resolve("copy/main"));
        for (String part : List.of("README.md", ".ci", "src")) {
            for (Path file : Checkout.filesUnder(Checkout.ROOT.resolve(part))) {
                copy(file, copy.resolve(Checkout.ROOT.relativize(file)));
            }
        }
        Files.createSymbolicLink(copy.resolveSibling("shared"), Checkout.SHARED);
        List<String> commands = blocks("sh");
        expect.due("README.md tells how to run all tests", commands.contains(ALL_TESTS + "\n"), true);
        for (String command : commands) {
            String printed = due(start(command, copy, "sh", "-e", "-c", command), true);
            if (command.startsWith(ALL_TESTS)) {
                dueForAll(printed);
            }
        }
    }

    private void dueForAll(String printed) throws IOException {
        List<String> names = testsUnder(Checkout.TESTS);
        names.addAll(testsUnder(Checkout.SHARED.resolve("tests")));
        for (String name : names) {
            expect.due(ALL_TESTS + " runs " + name, printed.contains("== " + name + "\n"), true);
        }
        String last = names.size() + " passed, 0 failed";
        expect.due(ALL_TESTS + " counts " + last, printed.endsWith(last + "\n"), true);
    }

    private static void copy(Path from, Path to) throws IOException {
        Files.createDirectories(to.getParent());
        Files.copy(from, to);
    }

    private void failuresAreTold() throws IOException, InterruptedException {
        due(startWith("two tests that pass", PASSES, PASSES), true);
        due(startWith("an own test that fails", FAILS, PASSES), false);
        due(startWith("an own test that is no Java", NO_JAVA, PASSES), false);
        due(startWith("a shared test that fails", PASSES, FAILS), false);
        due(startWith("a shared test that is no Java", PASSES, NO_JAVA), false);
        due(startWith("no shared test", PASSES, ""), false);
    }

    /** .ci/run in a checkout that has only these two tests, and a class that does nothing. */
    private Started startWith(String what, String own, String shared) throws IOException {
        Path root = work.resolve(what.replace(' ', '-')).resolve("main");
        copy(Checkout.ROOT.resolve(ALL_TESTS), root.resolve(ALL_TESTS));
        write(root.resolve("src/main/java"), "ValueMill", "");
        write(root.resolve("src/test/java"), "OwnTest", own);
        if (!shared.isEmpty()) {
            write(root.resolveSibling("shared").resolve("tests"), "SharedRuns", shared);
        }
        return start(ALL_TESTS + " with " + what, root, root.resolve(ALL_TESTS).toString());
    }

    private static void write(Path directory, String name, String body) throws IOException {
        Files.createDirectories(directory);
        Files.writeString(directory.resolve(name + ".java"), program(name, body));
    }
}
