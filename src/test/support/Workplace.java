import java.io.IOException;
import java.nio.file.Files;
import java.nio.file.Path;
import java.nio.file.StandardCopyOption;
import java.util.ArrayList;
import java.util.Comparator;
import java.util.List;

/** A folder made for one test, with main and shared side by side in it, where the test can run commands. */
final class Workplace implements AutoCloseable {
    private final Path root;
    private final Path main;

    /** How the commands ended, what they printed, and what they printed as errors or notices. */
    record Outcome(int exit, List<String> lines, List<String> errors) {
    }

    Workplace() throws IOException {
        root = Files.createTempDirectory("zonedesk");
        main = Files.createDirectories(root.resolve("main"));
    }

    /** Copies a file of the project, with its permissions: whether it can be run is part of what is tested. */
    void copy(String file) throws IOException {
        Files.createDirectories(main.resolve(file).getParent());
        Files.copy(Path.of(file), main.resolve(file), StandardCopyOption.COPY_ATTRIBUTES);
    }

    void write(String file, List<String> lines) throws IOException {
        Path path = main.resolve(file).normalize();
        Files.createDirectories(path.getParent());
        Files.write(path, lines);
    }

    /** Runs the commands as one shell script in main, which ends at the first one that fails. */
    Outcome run(List<String> commands) throws IOException, InterruptedException {
        Path printed = root.resolve("printed");
        Path errors = root.resolve("errors");
        Process process = new ProcessBuilder("sh", "-e", "-c", String.join("\n", commands))
            .directory(main.toFile())
            .redirectOutput(printed.toFile())
            .redirectError(errors.toFile())
            .start();
        process.getOutputStream().close();
        int exit = process.waitFor();
        return new Outcome(exit, Files.readAllLines(printed), Files.readAllLines(errors));
    }

    @Override
    public void close() throws IOException {
        List<Path> inside;
        try (var walk = Files.walk(root)) {
            inside = new ArrayList<>(walk.toList());
        }
        inside.sort(Comparator.reverseOrder());
        for (Path path : inside) {
            Files.delete(path);
        }
    }
}
