import java.io.IOException;
import java.nio.file.Files;
import java.nio.file.Path;
import java.util.List;

/** Some rules of LANGUAGE.md that can be seen in the source's text; run from the project's folder. */
public final class LanguageTest {
  private static final List<String> LEFT_OUT =
      List.of(
          "import ", "->", "::", "Exact(", "finally", "synchronized", "assert ", "static {", "new Random",
          "System.currentTimeMillis", "System.nanoTime", "System.out", "getMessage", ".equals(", "hashCode",
          "catch (Exception", "catch (RuntimeException", "catch (Throwable", "catch (ArithmeticException",
          "catch (IndexOutOfBoundsException", "catch (NullPointerException", "catch (ArrayIndexOutOf",
          "catch (ClassCast", "catch (NegativeArraySize", "catch (ArrayStore");

  public static void main(String[] args) throws IOException {
    String source = Files.readString(Path.of("src/main/java/LaneAtBorder.java"));
    for (String words : LEFT_OUT) {
      Check.due("places with " + words, source.contains(words) ? 1 : 0, 0);
    }
    Check.due("signs beyond 127", source.chars().filter(sign -> sign > 127).count(), 0);
    Check.end();
  }
}
