import java.io.IOException;
import java.nio.file.Files;
import java.nio.file.Path;
import java.util.Comparator;
import java.util.List;
import java.util.stream.Collectors;
import java.util.stream.Stream;

/** Directories that tests make for themselves. */
final class Trees {
    private Trees() {
    }

    static void remove(Path top) throws IOException {
        List<Path> all;
        try (Stream<Path> paths = Files.walk(top)) {
            all = paths.sorted(Comparator.reverseOrder()).collect(Collectors.toList());
        }
        for (Path path : all) {
            Files.delete(path);
        }
    }

    static void write(Path file, String text) throws IOException {
        Files.createDirectories(file.getParent());
        Files.writeString(file, text);
    }
}
