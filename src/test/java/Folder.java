import java.io.IOException;
import java.nio.file.Files;
import java.nio.file.Path;
import java.util.Comparator;
import java.util.List;
import java.util.stream.Collectors;
import java.util.stream.Stream;

/** A folder for the time of one test, in which commands can be run. */
final class Folder implements AutoCloseable {
    final Path path;

    /** How a command ended, and what it printed; what went to its error stream is left out. */
    record Ended(int code, String printed) {
    }

    Folder() throws IOException {
        path = Files.createTempDirectory("TextDelta");
    }

    void write(String name, String text) throws IOException {
        Path file = path.resolve(name);
        Files.createDirectories(file.getParent());
        Files.writeString(file, text);
    }

    void copy(String file, String name) throws IOException {
        write(name, Files.readString(Path.of(file)));
    }

    void delete(String name) throws IOException {
        Files.delete(path.resolve(name));
    }

    Ended run(String inside, String command) throws IOException, InterruptedException {
        Process process = new ProcessBuilder("sh", "-c", command)
            .directory(path.resolve(inside).toFile()).redirectError(ProcessBuilder.Redirect.DISCARD).start();
        process.getOutputStream().close();
        String printed = new String(process.getInputStream().readAllBytes());
        return new Ended(process.waitFor(), printed);
    }

    @Override
    public void close() throws IOException {
        try (Stream<Path> files = Files.walk(path)) {
            List<Path> innerFirst = files.sorted(Comparator.reverseOrder()).collect(Collectors.toList());
            for (Path file : innerFirst) {
                Files.delete(file);
            }
        }
    }
}
