/** Promises 32 to 38: keep, row, put, element, copy, toll, toss. */
public final class ShelvesTest {
  private static final int[] TOLL_OF_3 = {4, 7, 2, 6, 4, 7, 14, 1};

  public static void main(String[] args) {
    keep();
    row();
    put();
    element();
    copy();
    copyRefused();
    toll();
    toss();
    Check.end();
  }

  private static void keep() {
    LaneAtBorder x = Check.of("l00;l15;");
    Check.due("keep(0, 1, 1)", x.keep(0, 1, 1), 0);
    Check.due("keep(7, 1, 0)", x.keep(7, 1, 0), 0);
    Check.due("kept", x.toll(0), 9);
    Check.due("kept", x.toll(7), 4);
    String before = Check.everything(x);
    int[][] wrong = {{-1, 0, 0}, {8, 0, 0}, {-1, 1, 0}, {8, 1, 0}, {0, -1, 0}, {0, 2, 0}, {0, 1, -1}, {0, 1, 2}, {0, 1, 5}};
    for (int[] w : wrong) {
      Check.due("keep" + java.util.Arrays.toString(w), x.keep(w[0], w[1], w[2]), -1);
    }
    Check.due("nothing changed", Check.everything(x), before);
    Check.due("nothing, whatever k is", x.keep(0, 0, 99), 0);
    Check.due("nothing", x.toll(0), -11);
    x.row(0, 0, 3);
    Check.due("in place of a row", x.keep(0, 1, 1), 0);
    Check.due("kept", x.toll(0), 9);
    Check.due("no row any more", Check.element(x, 0, 0), "IllegalStateException");
    Check.due("nothing in place of a lane", x.keep(0, 0, 0), 0);
    Check.due("nothing", x.put(0, 0, 0), -11);
  }

  private static void row() {
    LaneAtBorder x = Check.of("l00;");
    for (int sort = 0; sort < 3; sort++) {
      Check.due("row", x.row(sort, sort, 100), 0);
      Check.due("the last element", Check.element(x, sort, 99), "0");
      Check.due("behind it", Check.element(x, sort, 100), "IllegalStateException");
    }
    Check.due("a row of none", x.row(3, 0, 0), 0);
    Check.due("is a row", x.put(3, 0, 0), -13);
    x.put(2, 1, 77);
    x.keep(4, 1, 0);
    String before = Check.everything(x);
    int[][] wrong = {{-1, 0, 1}, {8, 0, 1}, {2, -1, 1}, {2, 3, 1}, {2, 0, 101}, {2, 0, Integer.MAX_VALUE}, {8, 0, -1}, {2, 3, -1}};
    for (int[] w : wrong) {
      Check.due("row" + java.util.Arrays.toString(w), x.row(w[0], w[1], w[2]), -1);
    }
    Check.due("a size below 0", x.row(2, 0, -1), -14);
    Check.due("a size far below 0", x.row(2, 0, Integer.MIN_VALUE), -14);
    Check.due("nothing changed", Check.everything(x), before);
    x.row(2, 2, 2);
    Check.due("a new row has 0", Check.element(x, 2, 1), "0");
    Check.due("in place of a lane", x.row(4, 1, 1), 0);
    Check.due("no lane any more", x.toll(4), -12);
  }

  private static void put() {
    LaneAtBorder x = Check.of("l00;");
    int[] values = {0, 127, 128, -128, -129, 255, 256, 32767, 32768, -32768, -32769, 65535, Integer.MAX_VALUE, Integer.MIN_VALUE};
    for (int sort = 0; sort < 3; sort++) {
      x.row(sort, sort, 2);
      for (int v : values) {
        long due = sort == 0 ? (byte) v : sort == 1 ? (short) v : v;
        Check.due("put", x.put(sort, 1, v), 0);
        Check.due("element", Check.element(x, sort, 1), Long.toString(due));
      }
      Check.due("the other stays", Check.element(x, sort, 0), "0");
      Check.due("behind the last", x.put(sort, 2, 1), -13);
      Check.due("ahead of the first", x.put(sort, -1, 1), -13);
    }
    x.keep(3, 1, 0);
    Check.due("no such shelf", x.put(-1, 0, 0), -1);
    Check.due("no such shelf", x.put(8, 0, 0), -1);
    Check.due("nothing held", x.put(7, -1, 0), -11);
    Check.due("a lane", x.put(3, -1, 0), -12);
    Check.due("the lane stays", x.toll(3), 4);
  }

  private static void element() {
    LaneAtBorder x = Check.of("l00;");
    Check.numbers(x, 0, 2, 5, -6);
    x.keep(1, 1, 0);
    Check.due("element(0, 0)", Check.element(x, 0, 0), "5");
    Check.due("element(0, 1)", Check.element(x, 0, 1), "-6");
    Check.due("no such place", Check.element(x, 0, 2), "IllegalStateException");
    Check.due("no such place", Check.element(x, 0, -1), "IllegalStateException");
    Check.due("a lane", Check.element(x, 1, 0), "IllegalStateException");
    Check.due("nothing held", Check.element(x, 2, 0), "IllegalStateException");
    Check.due("no such shelf", Check.element(x, -1, 0), "IllegalArgumentException");
    Check.due("no such shelf", Check.element(x, 8, -1), "IllegalArgumentException");
  }

  private static void copy() {
    LaneAtBorder x = new LaneAtBorder();
    Check.numbers(x, 0, 1, 1, 2, 3, 4, 5);
    Check.numbers(x, 1, 1, 6, 7, 8);
    Check.due("copy", x.copy(0, 3, 1, 0, 2), 2);
    Check.due("then", rowOf(x, 1, 3), "4 5 8 ");
    Check.due("from another stays", rowOf(x, 0, 5), "1 2 3 4 5 ");
    Check.due("onward in itself", x.copy(0, 0, 0, 1, 4), 4);
    Check.due("as they were", rowOf(x, 0, 5), "1 1 2 3 4 ");
    Check.due("back in itself", x.copy(0, 1, 0, 0, 4), 4);
    Check.due("as they were", rowOf(x, 0, 5), "1 2 3 4 4 ");
    Check.due("none, from the end", x.copy(0, 5, 1, 3, 0), 0);
    Check.due("all", x.copy(1, 0, 0, 2, 3), 3);
    Check.due("then", rowOf(x, 0, 5), "1 2 4 5 8 ");
  }

  private static String rowOf(LaneAtBorder x, int d, int n) {
    StringBuilder all = new StringBuilder();
    for (int i = 0; i < n; i++) {
      all.append(Check.element(x, d, i)).append(' ');
    }
    return all.toString();
  }

  private static void copyRefused() {
    LaneAtBorder x = Check.of("l00;");
    Check.numbers(x, 0, 1, 1, 2, 3, 4, 5);
    Check.numbers(x, 1, 1, 6, 7, 8);
    Check.numbers(x, 2, 2, 6, 7, 8);
    x.row(3, 1, 5);
    x.keep(3, 1, 0);
    String before = Check.everything(x);
    int most = Integer.MAX_VALUE;
    int least = Integer.MIN_VALUE;
    int[][] wrong = {
      {-1, 0, 0, 0, 1, -1}, {8, 0, 0, 0, 1, -1}, {0, 0, -1, 0, 1, -1}, {0, 0, 8, 0, 1, -1}, {7, 0, 8, 0, 1, -1},
      {7, 0, 0, 0, 1, -11}, {0, 0, 7, 0, 1, -11}, {3, 0, 7, 0, 1, -11}, {7, 0, 3, 0, -1, -11},
      {3, 0, 0, 0, 1, -12}, {0, 0, 3, 0, 1, -12}, {3, 0, 3, 0, 1, -12}, {0, 0, 2, 0, 1, -12}, {2, 9, 1, 9, 9, -12},
      {0, -1, 1, 0, 1, -13}, {0, 0, 1, -1, 1, -13}, {0, 0, 1, 0, -1, -13}, {0, 5, 1, 0, 1, -13}, {0, 0, 1, 3, 1, -13},
      {0, 0, 1, 0, 4, -13}, {0, 2, 1, 0, 4, -13}, {0, 6, 1, 0, 0, -13}, {0, 0, 1, 4, 0, -13},
      {0, most, 1, 0, 1, -13}, {0, 1, 1, 0, most, -13}, {0, 0, 1, most, 1, -13}, {0, 0, 1, 0, least, -13}, {0, least, 1, 0, most, -13},
    };
    for (int[] w : wrong) {
      Check.due("copy" + java.util.Arrays.toString(w), x.copy(w[0], w[1], w[2], w[3], w[4]), w[5]);
    }
    Check.due("nothing changed", Check.everything(x), before);
  }

  private static void toll() {
    for (int kind = 0; kind < 8; kind++) {
      LaneAtBorder x = Check.of("l" + kind + "3;");
      x.keep(5, 1, 0);
      Check.due("toll of kind " + kind, x.toll(5), TOLL_OF_3[kind]);
    }
    LaneAtBorder x = Check.of("l79;l69;");
    x.keep(0, 1, 0);
    x.keep(1, 1, 1);
    x.row(2, 0, 1);
    Check.due("below 0", x.toll(0), -5);
    Check.due("twice a quick one's", x.toll(1), 26);
    Check.due("no such shelf", x.toll(-1), -1);
    Check.due("no such shelf", x.toll(8), -1);
    Check.due("nothing held", x.toll(7), -11);
    Check.due("a row", x.toll(2), -12);
  }

  private static void toss() {
    // The lanes ahead of each make its number one that is not its kind.
    String[] kinds = {"l03;", "l13;", "l23;", "l33;", "l43;", "l53;", "l63;", "l73;"};
    int[] due = {2, 2, 2, 102, 2, 2, 200 + 14, -15};
    for (int kind = 0; kind < 8; kind++) {
      LaneAtBorder x = Check.of("l00;l00;" + kinds[kind] + "l" + kind + "0;");
      x.keep(0, 1, 2);
      x.keep(1, 1, 3);
      String before = Check.lanes(x);
      Check.due("toss of kind " + kind, x.toss(0), due[kind]);
      Check.due("toss of kind " + kind + " of figure 0", x.toss(1), -15);
      Check.due("nothing changed", Check.lanes(x), before);
    }
    LaneAtBorder x = Check.of("l31;l01;");
    x.keep(0, 1, 0);
    x.keep(1, 1, 1);
    x.row(2, 0, 1);
    Check.due("held ones' 100 more", x.toss(0), 100);
    Check.due("the number", x.toss(1), 1);
    Check.due("no such shelf", x.toss(-1), -1);
    Check.due("no such shelf", x.toss(8), -1);
    Check.due("nothing held", x.toss(7), -11);
    Check.due("a row", x.toss(2), -12);
  }
}
