import java.io.IOException;
import java.nio.file.Files;
import java.nio.file.Path;
import java.util.Comparator;
import java.util.List;
import java.util.stream.Collectors;
import java.util.stream.Stream;

/** A place of its own for a project (main) and what is shared beside it, in which commands can be run. */
final class Workplace implements AutoCloseable {
  private final Path place;
  private final Path output;

  Workplace() throws IOException {
    place = Files.createTempDirectory("courthand");
    output = place.resolve("output");
    Files.createDirectories(place.resolve("main"));
  }

  Path main() {
    return place.resolve("main");
  }

  /** Brings a file of this project, or of what is shared, to the same path there. */
  void bring(String path) throws IOException {
    Path to = main().resolve(path).normalize();
    Files.createDirectories(to.getParent());
    Files.copy(Path.of(path), to);
  }

  void write(String path, String text) throws IOException {
    Path to = main().resolve(path).normalize();
    Files.createDirectories(to.getParent());
    Files.writeString(to, text);
  }

  /** The exit code of a line as one would type it, from that directory. */
  int type(Path from, String line) throws IOException, InterruptedException {
    return new ProcessBuilder("sh", "-c", line).directory(from.toFile()).redirectErrorStream(true)
        .redirectOutput(output.toFile()).start().waitFor();
  }

  /** What the line that was typed last said. */
  String said() throws IOException {
    return Files.readString(output);
  }

  static List<String> filesIn(String directory, String ending) throws IOException {
    try (Stream<Path> files = Files.list(Path.of(directory))) {
      return files.map(file -> file.getFileName().toString()).filter(name -> name.endsWith(ending)).sorted()
          .collect(Collectors.toList());
    }
  }

  @Override
  public void close() throws IOException {
    try (Stream<Path> all = Files.walk(place)) {
      for (Path path : all.sorted(Comparator.reverseOrder()).collect(Collectors.toList())) {
        Files.delete(path);
      }
    }
  }
}
