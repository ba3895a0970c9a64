import java.io.IOException;
import java.nio.file.Files;
import java.nio.file.Path;
import java.util.List;

/** Where the project's files are: .ci/run tells its folder; without it, it is where the test is run. */
final class Project {
    private Project() {
    }

    static Path file(String name) {
        return Path.of(System.getProperty("project", ".")).resolve(name);
    }

    static List<String> lines(String name) throws IOException {
        return Files.readAllLines(file(name));
    }
}
