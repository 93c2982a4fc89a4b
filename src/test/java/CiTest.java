import java.io.IOException;
import java.nio.file.Files;
import java.nio.file.Path;
import java.nio.file.StandardCopyOption;
import java.util.stream.Stream;

/** .ci/run does what README.md says of it: it is run in small projects, with and without faults. */
public final class CiTest {
    private static final String GOOD = "public final class %s { public static void main(String[] a) {"
        + " if (new RxQueues().status() != 0) System.exit(1); } }\n";
    private static final String BAD = "public final class %s { public static void main(String[] a) {"
        + " if (new RxQueues().status() == 0) System.exit(1); } }\n";
    private static final String THROWS = "public final class %s { public static void main(String[] a) {"
        + " throw new IllegalStateException(\"as this test wants\"); } }\n";
    private static final String NO_JAVA = "public final class %s { no java }\n";

    private final Check check = new Check();

    public static void main(String[] args) throws Exception {
        CiTest one = new CiTest();
        one.due("all pass", GOOD, GOOD, 0, "ok: OwnTest", "ok: Told");
        one.due("a test of the project fails", BAD, GOOD, 1, "FAILED: OwnTest", "ok: Told");
        one.due("a test of the project throws", THROWS, GOOD, 1, "FAILED: OwnTest", "ok: Told");
        one.due("a test of the project is no Java", NO_JAVA, GOOD, 1);
        one.due("a shared test fails", GOOD, BAD, 1, "ok: OwnTest", "FAILED: Told");
        one.due("a shared test is no Java", GOOD, NO_JAVA, 1, "ok: OwnTest", "FAILED: Told does not compile");
        one.due("there is no shared test", GOOD, null, 1, "ok: OwnTest", "FAILED: no tests under ../shared/tests");
        one.check.finish();
    }

    private void due(String what, String own, String told, int code, String... rows) throws Exception {
        Path root = Files.createTempDirectory("ci");
        try {
            Path project = project(root, own, told);
            Path made = Files.createDirectory(root.resolve("made"));
            StringBuilder printed = new StringBuilder();
            // from another directory, and with a place of its own for what it compiles
            int got = Trees.run(root, printed, "env", "TMPDIR=" + made, project.resolve(".ci/run").toString());
            check.due(what + ": exit code", got, code);
            for (String row : rows) {
                check.due(what + ": prints '" + row + "'", printed.toString().lines().anyMatch(row::equals), true);
            }
            check.due(what + ": directories left behind", number(made), 0);
        } finally {
            Trees.takeAway(root);
        }
    }

    private static Path project(Path root, String own, String told) throws IOException {
        Path project = root.resolve("project");
        Files.createDirectories(project.resolve(".ci"));
        Files.createDirectories(project.resolve("src/main/java"));
        Files.createDirectories(project.resolve("src/test/java"));
        Files.createDirectories(root.resolve("shared/tests"));
        copy(project, ".ci/run");
        copy(project, "src/main/java/RxQueues.java");
        Files.writeString(project.resolve("src/test/java/OwnTest.java"), own.formatted("OwnTest"));
        if (told != null) {
            Files.writeString(root.resolve("shared/tests/Told.java"), told.formatted("Told"));
        }
        return project;
    }

    private static void copy(Path project, String file) throws IOException {
        Files.copy(Path.of(file), project.resolve(file), StandardCopyOption.COPY_ATTRIBUTES);
    }

    private static long number(Path dir) throws IOException {
        try (Stream<Path> files = Files.list(dir)) {
            return files.count();
        }
    }
}
