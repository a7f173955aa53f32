import java.io.IOException;
import java.nio.file.Files;
import java.nio.file.Path;
import java.util.Comparator;
import java.util.List;
import java.util.stream.Collectors;
import java.util.stream.Stream;

/** Folders that a test makes for itself, and takes away again. */
final class Folders {
    private Folders() { }

    static void copy(Path from, Path to) throws IOException {
        for (Path file : all(from)) {
            Path into = to.resolve(from.relativize(file));
            if (Files.isDirectory(file)) {
                Files.createDirectories(into);
            } else {
                Files.copy(file, into);
            }
        }
    }

    static void remove(Path folder) throws IOException {
        List<Path> all = all(folder);
        all.sort(Comparator.reverseOrder());
        for (Path file : all) {
            Files.delete(file);
        }
    }

    /** A folder stands ahead of what lies in it. */
    private static List<Path> all(Path folder) throws IOException {
        try (Stream<Path> files = Files.walk(folder)) {
            return files.collect(Collectors.toList());
        }
    }
}
