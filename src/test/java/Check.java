/** What the tests share: answers that are due, borders and rows of sorts put on shelves. */
final class Check {
  private static int wrong = 0;
  private static int looked = 0;

  private Check() {}

  static void due(String call, long got, long want) {
    looked++;
    if (got != want) {
      wrong++;
      System.out.println(call + " answered " + got + ", due is " + want);
    }
  }

  static void due(String call, String got, String want) {
    looked++;
    if (!got.equals(want)) {
      wrong++;
      System.out.println(call + " answered\n  " + got + "\n  due is\n  " + want);
    }
  }

  static void fail(String what) {
    wrong++;
    System.out.println(what);
  }

  /** Ends a test's main method. */
  static void end() {
    System.out.println(looked + " answers looked at, " + wrong + " not as due");
    if (wrong != 0) {
      System.exit(1);
    }
  }

  /** A new object with a border, which was read from shelf 0; that holds nothing then. */
  static LaneAtBorder of(String border) {
    LaneAtBorder x = new LaneAtBorder();
    if (read(x, border) < 0) {
      fail("border " + border + " was refused");
    }
    x.keep(0, 0, 0);
    return x;
  }

  static int read(LaneAtBorder x, String border) {
    text(x, 0, border);
    return x.border(0);
  }

  static void text(LaneAtBorder x, int d, String text) {
    x.row(d, 0, text.length());
    for (int i = 0; i < text.length(); i++) {
      x.put(d, i, text.charAt(i));
    }
  }

  static void numbers(LaneAtBorder x, int d, int sort, int... values) {
    x.row(d, sort, values.length);
    for (int i = 0; i < values.length; i++) {
      x.put(d, i, values[i]);
    }
  }

  static void sorts(LaneAtBorder x, int d, String digits) {
    x.row(d, 0, digits.length());
    for (int i = 0; i < digits.length(); i++) {
      x.put(d, i, digits.charAt(i) - '0');
    }
  }

  /** All that the face tells of the lanes and what goes with them. */
  static String lanes(LaneAtBorder x) {
    StringBuilder all = new StringBuilder();
    for (int what = 0; what <= 5; what++) {
      all.append(x.count(what)).append(' ');
    }
    for (int lane = 0; lane < x.count(0); lane++) {
      all.append("| ");
      for (int what = 0; what <= 8; what++) {
        all.append(x.lane(lane, what)).append(' ');
      }
      int cars = x.lane(lane, 2);
      for (int i = 0; i < cars; i++) {
        all.append(x.car(lane, i));
      }
    }
    return all.toString();
  }

  /** All that the face tells of the shelves. */
  static String shelves(LaneAtBorder x) {
    StringBuilder all = new StringBuilder();
    for (int d = 0; d < 8; d++) {
      int toll = x.toll(d);
      all.append("| ").append(toll).append(' ').append(x.toss(d)).append(' ');
      for (int i = 0; toll == -12 && i < 100; i++) {
        String told = element(x, d, i);
        if (told.equals("IllegalStateException")) {
          break;
        }
        all.append(told).append(' ');
      }
    }
    return all.toString();
  }

  static String everything(LaneAtBorder x) {
    return lanes(x) + " || " + shelves(x);
  }

  /** Element i of the row on shelf d, or the name of what is thrown. */
  static String element(LaneAtBorder x, int d, int i) {
    try {
      return Long.toString(x.element(d, i));
    } catch (RuntimeException thrown) {
      return thrown.getClass().getSimpleName();
    }
  }
}
