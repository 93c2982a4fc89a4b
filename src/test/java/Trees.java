import java.io.IOException;
import java.nio.charset.StandardCharsets;
import java.nio.file.Files;
import java.nio.file.Path;
import java.util.Comparator;
import java.util.List;
import java.util.stream.Stream;

/** Directories that a test makes and takes away again, and commands that run there. */
final class Trees {
    private Trees() {
    }

    static void takeAway(Path dir) throws IOException {
        try (Stream<Path> all = Files.walk(dir)) {
            List<Path> lastFirst = all.sorted(Comparator.reverseOrder()).toList();
            for (Path one : lastFirst) {
                Files.delete(one);
            }
        }
    }

    /** Answers the exit code; what the command prints is shown only if that is not 0. */
    static int run(Path dir, String... command) throws IOException, InterruptedException {
        StringBuilder printed = new StringBuilder();
        int code = run(dir, printed, command);
        if (code != 0) {
            System.out.print(printed);
        }
        return code;
    }

    static int run(Path dir, StringBuilder printed, String... command) throws IOException, InterruptedException {
        Process process = new ProcessBuilder(command).directory(dir.toFile()).redirectErrorStream(true).start();
        process.getOutputStream().close();
        printed.append(new String(process.getInputStream().readAllBytes(), StandardCharsets.UTF_8));
        return process.waitFor();
    }
}
