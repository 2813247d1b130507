import java.io.File;
import java.nio.file.Files;
import java.nio.file.Path;
import java.util.Comparator;
import java.util.List;
import java.util.concurrent.TimeUnit;
import java.util.stream.Stream;

/** What README.md says of .ci/run is so: it is run in a small project, with tests that pass and tests that fail. */
public final class CiRunTest {
    private static final String PROGRAM = "public final class FormulaCode { public int names() { return 0; } }";
    private static final String PASSES = "System.exit(new FormulaCode().names());";
    private static final String FAILS = "System.exit(new FormulaCode().names() + 1);";
    private static final String THROWS = "throw new IllegalStateException();";
    private static final String NO_JAVA = "new FormulaCode().names(";

    public static void main(String[] args) throws Exception {
        Check.same(".ci/run can be run", new File(".ci/run").canExecute(), true);
        answers("all pass", PASSES, PASSES, 0, "passed: OwnTest", "passed: Second", "passed: SharedRuns");
        answers("one of its own fails", FAILS, PASSES, 1, "FAILED: OwnTest", "passed: Second", "passed: SharedRuns");
        answers("a shared one fails", PASSES, FAILS, 1, "passed: OwnTest", "passed: Second", "FAILED: SharedRuns");
        answers("a shared one throws", PASSES, THROWS, 1, "passed: OwnTest", "FAILED: SharedRuns");
        answers("its own don't compile", NO_JAVA, PASSES, 1, "FAILED: ", "passed: SharedRuns");
        answers("a shared one doesn't compile", PASSES, NO_JAVA, 1, "passed: OwnTest", "FAILED: ");
        answers("no shared one is there", PASSES, null, 1, "passed: OwnTest", "FAILED: ");
        Check.finish();
    }

    private static void answers(String what, String own, String shared, int due, String... told) throws Exception {
        Path folder = Files.createTempDirectory("cirun");
        Path tests = Files.createDirectories(folder.resolve("main/src/test/java"));
        Path program = Files.createDirectories(folder.resolve("main/src/main/java"));
        Path sharedTests = Files.createDirectories(folder.resolve("shared/tests"));
        Path script = Files.createDirectories(folder.resolve("main/.ci")).resolve("run");
        Files.copy(Path.of(".ci/run"), script);
        Files.writeString(program.resolve("FormulaCode.java"), PROGRAM);
        write(tests, "OwnTest", own);
        write(tests, "SecondTest", PASSES);
        if (shared != null) {
            write(sharedTests, "SharedRuns", shared);
        }
        Path output = folder.resolve("output");
        // It is started from another folder than its project's.
        Process process = new ProcessBuilder("sh", script.toString()).directory(folder.toFile())
            .redirectErrorStream(true).redirectOutput(output.toFile()).start();
        boolean hasEnded = process.waitFor(120, TimeUnit.SECONDS);
        Check.same(what + ": it ends", hasEnded, true);
        Check.same(what + ": its answer", hasEnded ? process.exitValue() : -1, due);
        String lines = Files.readString(output);
        for (String line : told) {
            Check.same(what + ": it tells " + line, ("\n" + lines).contains("\n" + line), true);
        }
        remove(folder);
    }

    private static void write(Path folder, String name, String body) throws Exception {
        Files.writeString(folder.resolve(name + ".java"),
            "public final class " + name + " { public static void main(String[] args) { " + body + " } }");
    }

    private static void remove(Path folder) throws Exception {
        try (Stream<Path> all = Files.walk(folder)) {
            List<Path> deepestFirst = all.sorted(Comparator.reverseOrder()).toList();
            for (Path each : deepestFirst) {
                Files.delete(each);
            }
        }
    }
}
