import java.io.IOException;
import java.nio.file.Files;
import java.nio.file.Path;

/**
 * The document's sentences. A test names the promise and the sentence that it is of; what no test
 * names is told at the end. Tests run from the project's folder.
 */
final class Doc {
  private static final int PROMISES = 38;
  private static final String TEXT = read();
  private static final boolean[] NAMED = new boolean[TEXT.length()];

  private Doc() {}

  private static String read() {
    try {
      String text = Files.readString(Path.of("../shared/DOC.md"));
      return text.replaceAll("```\\w*|==== \\d", " ").replaceAll("\\s+", " ");
    } catch (IOException missing) {
      throw new IllegalStateException("../shared/DOC.md can't be read", missing);
    }
  }

  /** The sentence stands under the promise's heading, or in what all promises rest on. */
  static void name(int promise, String sentence) {
    int at = within(sentence, beginOf(promise), endOf(promise));
    if (at < 0) {
      at = within(sentence, 0, endOfTerms());
    }
    if (at < 0) {
      Check.fail("promise " + promise + " has no sentence: " + sentence);
      return;
    }
    for (int i = at; i < at + sentence.length(); i++) {
      NAMED[i] = true;
    }
  }

  /** Every sentence of the promises and of the terms must have been named. */
  static void tellUnnamed() {
    tellUnnamed(beginOfTerms(), endOfTerms());
    for (int promise = 1; promise <= PROMISES; promise++) {
      tellUnnamed(TEXT.indexOf("`: ", beginOf(promise)) + 3, endOf(promise));
    }
  }

  private static void tellUnnamed(int from, int to) {
    StringBuilder unnamed = new StringBuilder();
    for (int i = from; i < to; i++) {
      unnamed.append(NAMED[i] ? '|' : TEXT.charAt(i));
    }
    for (String words : unnamed.toString().split("\\|+")) {
      if (words.matches(".*[A-Za-z0-9].*")) {
        Check.fail("no test names: " + words);
      }
    }
  }

  private static int within(String words, int from, int to) {
    int at = TEXT.indexOf(words, from);
    return at >= 0 && at + words.length() <= to ? at : -1;
  }

  private static int place(String heading) {
    int at = TEXT.indexOf(heading);
    if (at < 0) {
      throw new IllegalStateException("the document has no " + heading);
    }
    return at;
  }

  private static int beginOfTerms() {
    return place("## Terms") + "## Terms".length();
  }

  private static int endOfTerms() {
    return place("Ahead of the calls `border`");
  }

  private static int beginOf(int promise) {
    return place("## Promise " + promise + ":");
  }

  private static int endOf(int promise) {
    return place(promise < PROMISES ? "## Promise " + (promise + 1) + ":" : "## Not promised");
  }
}
