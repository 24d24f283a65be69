import java.io.ByteArrayOutputStream;
import java.io.IOException;
import java.nio.charset.StandardCharsets;
import java.nio.file.Files;
import java.nio.file.Path;
import java.util.List;

/** The example of README.md compiles with the class alone and prints what README.md says. */
public final class ReadmeTest {
  public static void main(String[] args) throws IOException, InterruptedException {
    String readme = Files.readString(Path.of("README.md"));
    Path folder = Files.createTempDirectory("readme");
    Path example = folder.resolve("Example.java");
    try {
      Files.writeString(example, block(readme, "java"));
      String compiled =
          told("javac", "-d", folder.toString(), "src/main/java/LaneAtBorder.java", example.toString());
      Check.due("javac", compiled, "");
      Check.due("the example", told("java", "-cp", folder.toString(), "Example"), block(readme, "text"));
    } finally {
      clear(folder);
    }
    Check.end();
  }

  /** What stands in the first block of a language. */
  private static String block(String readme, String language) {
    String begin = "```" + language + "\n";
    int from = readme.indexOf(begin);
    int to = from < 0 ? -1 : readme.indexOf("```", from + begin.length());
    if (to < 0) {
      Check.fail("README.md has no block of " + language);
      return "";
    }
    return readme.substring(from + begin.length(), to);
  }

  /**
   * All that a program prints; one that fails tells its exit code behind that. What Java itself tells
   * of its settings goes to the error stream, so that this is only shown.
   */
  private static String told(String... command) throws IOException, InterruptedException {
    Process process = new ProcessBuilder(List.of(command)).redirectError(ProcessBuilder.Redirect.INHERIT).start();
    ByteArrayOutputStream printed = new ByteArrayOutputStream();
    process.getInputStream().transferTo(printed);
    int code = process.waitFor();
    String text = printed.toString(StandardCharsets.UTF_8);
    return code == 0 ? text : text + "exit code " + code;
  }

  private static void clear(Path folder) throws IOException {
    try (var files = Files.list(folder)) {
      for (Path file : files.toList()) {
        Files.delete(file);
      }
    }
    Files.delete(folder);
  }
}
