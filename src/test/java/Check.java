import java.util.function.Supplier;
import java.util.function.ToLongFunction;

/** What the tests share: answers that are due, borders and rows of sorts put on shelves. */
final class Check {
  private static int wrong = 0;
  private static int looked = 0;
  private static String sentence = "";

  private Check() {}

  /** The answers looked at from here on are due by this sentence of the document. */
  static void says(int promise, String words) {
    Doc.name(promise, words);
    sentence = "promise " + promise + ", \"" + words + "\": ";
  }

  static void due(String call, long got, long want) {
    looked++;
    if (got != want) {
      fail(call + " answered " + got + ", due is " + want);
    }
  }

  static void due(String call, String got, String want) {
    looked++;
    if (!got.equals(want)) {
      fail(call + " answered\n  " + got + "\n  due is\n  " + want);
    }
  }

  static void fail(String what) {
    wrong++;
    System.out.println(sentence + what);
  }

  /**
   * The call answers as due and changes nothing: it is made on an object of its own, which then is
   * compared with another one that was made likewise.
   */
  static void unchanged(
      Supplier<LaneAtBorder> stage, String name, ToLongFunction<LaneAtBorder> call, long want) {
    LaneAtBorder x = stage.get();
    due(name, call.applyAsLong(x), want);
    due("all there is behind " + name, everything(x), everything(stage.get()));
  }

  /** What is told from here on is of no sentence of its own. */
  static void saysNoMore() {
    sentence = "";
  }

  /** Ends a test's main method. */
  static void end() {
    System.out.println(looked + " answers looked at, " + wrong + " not as due");
    if (wrong != 0) {
      System.exit(1);
    }
  }

  /** A new object with a border, which was read from shelf 0; that holds nothing then. */
  static LaneAtBorder of(String border) {
    LaneAtBorder x = new LaneAtBorder();
    if (read(x, border) < 0) {
      fail("border " + border + " was refused");
    }
    x.keep(0, 0, 0);
    return x;
  }

  /** As of, with a row of sorts in shelf 1. */
  static LaneAtBorder of(String border, String digits) {
    LaneAtBorder x = border.isEmpty() ? new LaneAtBorder() : of(border);
    sorts(x, 1, digits);
    return x;
  }

  static int read(LaneAtBorder x, String border) {
    text(x, 0, border);
    return x.border(0);
  }

  static void text(LaneAtBorder x, int d, String text) {
    numbers(x, d, 0, text.chars().toArray());
  }

  static void sorts(LaneAtBorder x, int d, String digits) {
    numbers(x, d, 0, digits.chars().map(digit -> digit - '0').toArray());
  }

  static void numbers(LaneAtBorder x, int d, int sort, int... values) {
    x.row(d, sort, values.length);
    for (int i = 0; i < values.length; i++) {
      x.put(d, i, values[i]);
    }
  }

  /** All that the face tells of the lanes and what goes with them. */
  static String lanes(LaneAtBorder x) {
    StringBuilder all = new StringBuilder();
    for (int what = 0; what <= 5; what++) {
      all.append(x.count(what)).append(' ');
    }
    int lanes = x.count(0);
    for (int lane = 0; lane < lanes; lane++) {
      all.append("| ");
      for (int what = 0; what <= 8; what++) {
        all.append(x.lane(lane, what)).append(' ');
      }
      int cars = x.lane(lane, 2);
      for (int i = 0; i < cars; i++) {
        all.append(x.car(lane, i));
      }
    }
    return all.toString();
  }

  /** All that the face tells of the shelves; which rows are of one sort is told by copies of none. */
  static String shelves(LaneAtBorder x) {
    StringBuilder all = new StringBuilder();
    for (int d = 0; d < 8; d++) {
      int toll = x.toll(d);
      all.append("| ").append(toll).append(' ').append(x.toss(d)).append(' ');
      if (toll == -12) {
        all.append(row(x, d)).append(x.comers(d, 0, 0, 0)).append(' ');
        for (int e = 0; e < d; e++) {
          all.append(x.copy(d, 0, e, 0, 0)).append(' ');
        }
      }
    }
    return all.toString();
  }

  /** The elements of the row on shelf d. */
  static String row(LaneAtBorder x, int d) {
    StringBuilder all = new StringBuilder();
    String told = element(x, d, 0);
    for (int i = 1; !told.startsWith("Illegal"); i++) {
      all.append(told).append(' ');
      told = element(x, d, i);
    }
    return all.toString();
  }

  /** All that the face tells, the image too: that is restored for it. */
  static String everything(LaneAtBorder x) {
    StringBuilder all = new StringBuilder(lanes(x)).append(" || ").append(shelves(x));
    return all.append(" || ").append(x.restore()).append(' ').append(lanes(x)).toString();
  }

  /** Element i of the row on shelf d, or the name of what is thrown. */
  static String element(LaneAtBorder x, int d, int i) {
    try {
      return Long.toString(x.element(d, i));
    } catch (RuntimeException thrown) {
      return thrown.getClass().getSimpleName();
    }
  }
}
