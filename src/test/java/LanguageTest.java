import java.io.IOException;
import java.nio.file.Files;
import java.nio.file.Path;
import java.util.List;
import java.util.regex.Matcher;
import java.util.regex.Pattern;

/** Some rules of LANGUAGE.md that can be seen in the source's text; run from the project's folder. */
public final class LanguageTest {
  private static final List<String> LEFT_OUT =
      List.of(
          "import ", "->", "::", "Exact(", "finally", "synchronized", "assert ", "static {", "new Random",
          "System.currentTimeMillis", "System.nanoTime", "System.out", "getMessage", ".equals(", "hashCode",
          "catch (Exception", "catch (RuntimeException", "catch (Throwable", "catch (ArithmeticException",
          "catch (IndexOutOfBoundsException", "catch (NullPointerException", "catch (ArrayIndexOutOf",
          "catch (ClassCast", "catch (NegativeArraySize", "catch (ArrayStore");
  private static final Pattern METHOD = Pattern.compile("( {2}| {4})\\w[^=;]* (\\w+)\\((.*)\\)[^=;]*\\{");
  /** Fields, what constructors fill them with, and exceptions: rows are made once and used again. */
  private static final Pattern MADE =
      Pattern.compile("( {2}| {4})(private |final )+[\\w\\[\\]]+ \\w+ = new .*|.*throw new .*| +\\w+\\[(d|lane)\\] = new (Shelf|Queue)\\(\\);");

  public static void main(String[] args) throws IOException {
    String source = Files.readString(Path.of("src/main/java/LaneAtBorder.java"));
    for (String words : LEFT_OUT) {
      Check.due("places with " + words, source.contains(words) ? 1 : 0, 0);
    }
    Check.due("signs beyond 127", source.chars().filter(sign -> sign > 127).count(), 0);
    List<String> lines = source.lines().toList();
    sizes(lines);
    objects(lines);
    long classes = lines.stream().filter(line -> line.matches("( {2})?\\w.* class \\w+ \\{")).count();
    Check.due("classes beyond twelve", Math.max(0, classes - 12), 0);
    Check.end();
  }

  /** Rule 11: at most seven parameters, some sixty lines. */
  private static void sizes(List<String> lines) {
    int methods = 0;
    for (int i = 0; i < lines.size(); i++) {
      Matcher method = METHOD.matcher(lines.get(i));
      if (method.matches()) {
        methods++;
        String end = method.group(1) + "}";
        int length = lines.subList(i, lines.size()).indexOf(end) + 1;
        Check.due("lines of " + method.group(2) + " beyond sixty: " + length, length > 60 ? 1 : 0, 0);
        int given = method.group(3).isEmpty() ? 0 : method.group(3).split(",").length;
        Check.due("what is given to " + method.group(2) + " beyond seven", Math.max(0, given - 7), 0);
      }
    }
    Check.due("too few methods were found: " + methods, methods < 37 ? 1 : 0, 0);
  }

  private static void objects(List<String> lines) {
    for (String line : lines) {
      if (line.matches(".*\\bnew\\b.*") && !line.strip().startsWith("*") && !line.strip().startsWith("/*")) {
        Check.due("an object made outside constructors: " + line, MADE.matcher(line).matches() ? 1 : 0, 1);
      }
    }
  }
}
