import java.util.Arrays;

/** Promises 32 to 38: keep, row, put, element, copy, toll, toss; what all calls refuse. */
final class ShelfCases {
  private static final int MOST = Integer.MAX_VALUE;
  private static final int LEAST = Integer.MIN_VALUE;
  private static final int[] NO_SHELVES = {LEAST, -1, 8, MOST};

  private ShelfCases() {}

  static void run() {
    keep();
    keepRefused();
    row();
    rowRefused();
    put();
    putRefused();
    element();
    elementThrows();
    copy();
    copyRefused();
    toll();
    tollByKinds();
    toss();
    tossRefused();
    refusals();
  }

  /** Shelf 0 shorts, 1 shorts, 2 ints, 3 a lane, 4 bytes, 5 a row of none, 6 another lane, 7 nothing. */
  private static LaneAtBorder stage() {
    LaneAtBorder x = Check.of("l63;l31;m1;");
    x.image();
    Check.numbers(x, 0, 1, 1, 2, 3, 4, 5);
    Check.numbers(x, 1, 1, 6, 7, 8);
    Check.numbers(x, 2, 2, 6, 7, 8);
    x.row(3, 1, 5);
    x.keep(3, 1, 0);
    Check.numbers(x, 4, 0, 1, -2);
    x.row(5, 1, 0);
    x.keep(6, 1, 1);
    return x;
  }

  private static void keep() {
    LaneAtBorder x = Check.of("l00;l15;l25;l35;l69;");
    Check.says(32, "SHELF d gets: what = 0 nothing; 1 LANE k: 0.");
    Check.due("the first lane into the last shelf", x.keep(7, 1, 0), 0);
    Check.due("kept", x.toll(7), 4);
    Check.due("the last lane into the first shelf", x.keep(0, 1, 4), 0);
    Check.due("kept", x.toll(0), 26);
    Check.due("another in its place", x.keep(0, 1, 1), 0);
    Check.due("kept", x.toll(0), 9);
    Check.due("nothing", x.keep(0, 0, 0), 0);
    Check.due("nothing is held", x.toll(0), -11);
    Check.due("nothing in place of nothing", x.keep(0, 0, 0), 0);
    x.row(0, 0, 3);
    Check.due("a lane in place of a row", x.keep(0, 1, 1), 0);
    Check.due("no row any more", x.put(0, 0, 0), -12);
    x.row(0, 0, 3);
    Check.due("nothing in place of a row", x.keep(0, 0, 0), 0);
    Check.due("no row any more", x.put(0, 0, 0), -11);
    for (int k : new int[] {LEAST, -1, 5, MOST}) {
      x.keep(0, 1, 1);
      Check.due("nothing, k " + k, x.keep(0, 0, k), 0);
      Check.due("nothing is held", x.toll(0), -11);
    }
  }

  private static void keepRefused() {
    Check.says(32, "-1.");
    int[][] wrong = {
      {-1, 0, 0}, {8, 0, 0}, {LEAST, 0, 0}, {MOST, 0, 0}, {-1, 1, 0}, {8, 1, 0},
      {0, -1, 0}, {0, 2, 0}, {0, LEAST, 0}, {0, MOST, 0}, {3, 2, 0},
      {0, 1, -1}, {0, 1, 2}, {0, 1, 5}, {0, 1, LEAST}, {0, 1, MOST}, {3, 1, 2}, {7, 1, 2}, {8, 2, 2},
    };
    for (int[] w : wrong) {
      Check.unchanged(ShelfCases::stage, "keep" + Arrays.toString(w), x -> x.keep(w[0], w[1], w[2]), -1);
    }
    Check.due("no lanes", new LaneAtBorder().keep(0, 1, 0), -1);
  }

  private static void row() {
    LaneAtBorder x = Check.of("l00;");
    Check.says(33, "A ROW has a SORT (0 bytes, 1 shorts, 2 ints) and 0 .. 100 elements, 0 at first;");
    for (int sort = 0; sort < 3; sort++) {
      x.row(sort, sort, 100);
      x.row(sort + 3, sort, 0);
      Check.due("elements", Check.row(x, sort), "0 ".repeat(100));
      Check.due("no element", Check.row(x, sort + 3), "");
      Check.due("but a row", x.put(sort + 3, 0, 0), -13);
    }
    Check.due("shorts are no bytes", x.copy(0, 0, 1, 0, 0), -12);
    Check.due("ints are no shorts", x.copy(1, 0, 2, 0, 0), -12);
    Check.says(33, "SHELF d gets a ROW of a SORT: 0.");
    Check.due("into the first shelf", x.row(0, 0, 1), 0);
    Check.due("into the last shelf", x.row(7, 2, 2), 0);
    Check.due("its elements", Check.row(x, 7), "0 0 ");
    x.put(7, 1, 77);
    Check.due("in place of a row", x.row(7, 2, 2), 0);
    Check.due("its elements", Check.row(x, 7), "0 0 ");
    x.put(7, 1, 77);
    x.keep(7, 1, 0);
    Check.due("in place of a lane", x.row(7, 1, 2), 0);
    Check.due("no lane any more", x.toll(7), -12);
    Check.due("its elements", Check.row(x, 7), "0 0 ");
  }

  private static void rowRefused() {
    Check.says(33, "-1 (n above 100); -14.");
    int[][] wrong = {
      {-1, 0, 1, -1}, {8, 0, 1, -1}, {LEAST, 0, 1, -1}, {MOST, 0, 1, -1},
      {2, -1, 1, -1}, {2, 3, 1, -1}, {2, LEAST, 1, -1}, {2, MOST, 1, -1},
      {2, 0, 101, -1}, {2, 0, MOST, -1}, {7, 0, 101, -1}, {3, 0, 101, -1},
      {2, 0, -1, -14}, {2, 2, LEAST, -14}, {7, 0, -1, -14}, {3, 0, -1, -14},
      {8, 0, -1, -1}, {2, 3, -1, -1}, {-1, 0, LEAST, -1}, {2, -1, LEAST, -1},
    };
    for (int[] w : wrong) {
      Check.unchanged(ShelfCases::stage, "row" + Arrays.toString(w), x -> x.row(w[0], w[1], w[2]), w[3]);
    }
  }

  private static void put() {
    int[] values = {
      0, 1, -1, 127, 128, -128, -129, 255, 256, 32767, 32768, -32768, -32769, 65535, 65536, MOST, LEAST,
    };
    String[] due = {
      "0 1 -1 127 -128 -128 127 -1 0 -1 0 0 -1 -1 0 -1 0 ",
      "0 1 -1 127 128 -128 -129 255 256 32767 -32768 -32768 32767 -1 0 -1 0 ",
      "0 1 -1 127 128 -128 -129 255 256 32767 32768 -32768 -32769 65535 65536 2147483647 -2147483648 ",
    };
    Check.says(34, "what is put in keeps its lowest bits.");
    for (int sort = 0; sort < 3; sort++) {
      LaneAtBorder x = new LaneAtBorder();
      Check.numbers(x, 0, sort, values);
      Check.due("elements of sort " + sort, Check.row(x, 0), due[sort]);
    }
    Check.says(34, "Element i of the ROW becomes v: 0.");
    LaneAtBorder x = new LaneAtBorder();
    x.row(7, 0, 100);
    Check.due("the first", x.put(7, 0, 5), 0);
    Check.due("the last", x.put(7, 99, 6), 0);
    Check.due("the others stay", Check.row(x, 7), "5 " + "0 ".repeat(98) + "6 ");
  }

  private static void putRefused() {
    Check.says(34, "-1, -11, -12, -13.");
    for (int d : NO_SHELVES) {
      Check.unchanged(ShelfCases::stage, "put into " + d, x -> x.put(d, 0, 9), -1);
      Check.unchanged(ShelfCases::stage, "put into " + d + ", no place", x -> x.put(d, -1, 9), -1);
    }
    for (int i : new int[] {LEAST, -1, 0, 100, MOST}) {
      Check.unchanged(ShelfCases::stage, "nothing held", x -> x.put(7, i, 9), -11);
      Check.unchanged(ShelfCases::stage, "a lane held", x -> x.put(3, i, 9), -12);
      Check.unchanged(ShelfCases::stage, "a row of none", x -> x.put(5, i, 9), -13);
    }
    for (int i : new int[] {LEAST, -1, 3, 99, 100, MOST}) {
      Check.unchanged(ShelfCases::stage, "no place " + i, x -> x.put(1, i, 9), -13);
    }
    LaneAtBorder x = new LaneAtBorder();
    x.row(0, 2, 100);
    Check.due("behind the hundredth", x.put(0, 100, 1), -13);
  }

  private static void element() {
    LaneAtBorder x = stage();
    Check.says(35, "Element i of the ROW.");
    Check.due("the first", Check.element(x, 0, 0), "1");
    Check.due("the last", Check.element(x, 0, 4), "5");
    Check.due("below 0", Check.element(x, 4, 1), "-2");
    Check.numbers(x, 7, 2, LEAST, MOST);
    Check.due("the least int", Check.element(x, 7, 0), "-2147483648");
    Check.due("the greatest int", Check.element(x, 7, 1), "2147483647");
  }

  /** 1 an IllegalArgumentException, 2 an IllegalStateException, 0 none. */
  private static int thrown(LaneAtBorder x, int d, int i) {
    String told = Check.element(x, d, i);
    return told.equals("IllegalArgumentException") ? 1 : told.equals("IllegalStateException") ? 2 : 0;
  }

  private static void elementThrows() {
    Check.says(35, "IllegalArgumentException: no such SHELF;");
    for (int d : NO_SHELVES) {
      for (int i : new int[] {LEAST, -1, 0, MOST}) {
        Check.unchanged(ShelfCases::stage, "element(" + d + ", " + i + ")", x -> thrown(x, d, i), 1);
      }
    }
    Check.says(35, "IllegalStateException: no ROW, no such place.");
    for (int i : new int[] {LEAST, -1, 0, 5, 100, MOST}) {
      Check.unchanged(ShelfCases::stage, "of nothing", x -> thrown(x, 7, i), 2);
      Check.unchanged(ShelfCases::stage, "of a lane", x -> thrown(x, 3, i), 2);
      Check.unchanged(ShelfCases::stage, "of a row of none", x -> thrown(x, 5, i), 2);
      Check.unchanged(ShelfCases::stage, "at place " + i, x -> thrown(x, 0, i), i == 0 ? 0 : 2);
    }
  }

  private static void copy() {
    LaneAtBorder x = new LaneAtBorder();
    Check.numbers(x, 0, 1, 1, 2, 3, 4, 5);
    Check.numbers(x, 7, 1, 6, 7, 8);
    Check.says(36, "n elements of the ROW in SHELF d from i on come to that in SHELF e from j on: n.");
    Check.due("the last two", x.copy(0, 3, 7, 0, 2), 2);
    Check.due("then", Check.row(x, 7), "4 5 8 ");
    Check.due("where they came from", Check.row(x, 0), "1 2 3 4 5 ");
    Check.due("onward in itself", x.copy(0, 0, 0, 1, 4), 4);
    Check.due("as they were", Check.row(x, 0), "1 1 2 3 4 ");
    Check.due("back in itself", x.copy(0, 1, 0, 0, 4), 4);
    Check.due("as they were", Check.row(x, 0), "1 2 3 4 4 ");
    Check.due("all, to the end", x.copy(7, 0, 0, 2, 3), 3);
    Check.due("then", Check.row(x, 0), "1 2 4 5 8 ");
    Check.due("none", x.copy(0, 0, 7, 0, 0), 0);
    Check.due("none, from the end to the end", x.copy(0, 5, 7, 3, 0), 0);
    Check.due("then", Check.row(x, 7), "4 5 8 ");
    x.row(1, 1, 0);
    Check.due("none of none", x.copy(1, 0, 1, 0, 0), 0);
    for (int sort = 0; sort < 3; sort++) {
      x.row(2, sort, 100);
      x.row(3, sort, 100);
      x.put(2, 0, 1);
      x.put(2, 99, -2);
      Check.due("a hundred", x.copy(2, 0, 3, 0, 100), 100);
      Check.due("then", Check.row(x, 3), "1 " + "0 ".repeat(98) + "-2 ");
    }
  }

  private static void copyRefused() {
    int[][] wrong = {
      {-1, 0, 0, 0, 1, -1}, {8, 0, 0, 0, 1, -1}, {0, 0, -1, 0, 1, -1}, {0, 0, 8, 0, 1, -1}, {MOST, 0, LEAST, 0, 1, -1},
      {7, 0, 8, 0, 1, -1}, {-1, 0, 7, 0, 1, -1}, {3, 0, 8, 0, 1, -1}, {0, 9, 8, 0, 1, -1}, {8, 0, 2, 0, -1, -1},
      {7, 0, 0, 0, 1, -11}, {0, 0, 7, 0, 1, -11}, {7, 0, 7, 0, 0, -11}, {3, 0, 7, 0, 1, -11}, {7, 0, 3, 0, 1, -11},
      {7, 9, 0, 0, 1, -11}, {0, 0, 7, 0, -1, -11},
      {3, 0, 0, 0, 1, -12}, {0, 0, 3, 0, 1, -12}, {3, 0, 6, 0, 0, -12}, {3, 0, 3, 0, 0, -12}, {0, 0, 2, 0, 1, -12},
      {4, 0, 0, 0, 0, -12}, {2, 9, 1, 9, 9, -12}, {3, 0, 0, 0, -1, -12},
      {0, -1, 1, 0, 1, -13}, {0, 0, 1, -1, 1, -13}, {0, 0, 1, 0, -1, -13}, {0, 5, 1, 0, 1, -13}, {0, 0, 1, 3, 1, -13},
      {0, 0, 1, 0, 4, -13}, {0, 3, 1, 0, 3, -13}, {0, 0, 1, 1, 3, -13}, {0, 6, 1, 0, 0, -13}, {0, 0, 1, 4, 0, -13},
      {0, -1, 1, 0, 0, -13}, {0, 0, 1, -1, 0, -13}, {5, 0, 0, 0, 1, -13}, {0, 0, 5, 0, 1, -13}, {0, 0, 0, 0, 6, -13},
      {0, MOST, 1, 0, 1, -13}, {0, 1, 1, 0, MOST, -13}, {0, 0, 1, MOST, 1, -13}, {0, MOST, 1, MOST, MOST, -13},
      {0, 0, 1, 0, LEAST, -13}, {0, LEAST, 1, 0, MOST, -13}, {0, LEAST, 1, LEAST, LEAST, -13}, {0, 5, 1, 3, LEAST, -13},
    };
    Check.says(36, "-1, -11 (either), -12 (no ROWS of one SORT), -13.");
    for (int[] w : wrong) {
      String call = "copy" + Arrays.toString(w);
      Check.unchanged(ShelfCases::stage, call, x -> x.copy(w[0], w[1], w[2], w[3], w[4]), w[5]);
    }
  }

  private static void toll() {
    Check.says(37, "TOLL of the LANE on SHELF d.");
    Check.due("in shelf 3", stage().toll(3), 14);
    Check.due("in shelf 6", stage().toll(6), 6);
    Check.says(37, "-1, -11, -12 (a ROW).");
    for (int d : NO_SHELVES) {
      Check.unchanged(ShelfCases::stage, "toll(" + d + ")", x -> x.toll(d), -1);
    }
    Check.unchanged(ShelfCases::stage, "nothing held", x -> x.toll(7), -11);
    for (int d : new int[] {0, 1, 2, 4, 5}) {
      Check.unchanged(ShelfCases::stage, "a row in shelf " + d, x -> x.toll(d), -12);
    }
  }

  /** By figures 0, 3 and 9. */
  private static void toll(String words, int kind, int... due) {
    LaneAtBorder x = Check.of("l" + kind + "0;l" + kind + "3;l" + kind + "9;");
    Check.says(37, words);
    for (int k = 0; k < 3; k++) {
      x.keep(k, 1, k);
      Check.due("toll of kind " + kind + ", figure " + x.lane(k, 1), x.toll(k), due[k]);
    }
  }

  private static void tollByKinds() {
    toll("TOLL of a LANE: LANE 4;", 0, 4, 4, 4);
    toll("QUICK a LANE's and FIGURE;", 1, 4, 7, 13);
    toll("SLOW a LANE's less 2;", 2, 2, 2, 2);
    toll("HELD three times a SLOW's;", 3, 6, 6, 6);
    toll("HIDDEN as a LANE; SHUT a SLOW's and 5;", 4, 4, 4, 4);
    toll("SHUT a SLOW's and 5;", 5, 7, 7, 7);
    toll("NEW twice a QUICK's;", 6, 8, 14, 26);
    toll("FLED a LANE's less FIGURE.", 7, 4, 1, -5);
  }

  private static void toss() {
    Check.says(
        38,
        "The FAILURE of the LANE on SHELF d is thrown, and caught: its number; of HELD ones 100 more;"
            + " of NEW ones 200 and their TOLL in place of that.");
    // The lanes ahead of each make its number one that is not its kind.
    int[] due = {2, 2, 2, 102, 2, 2, 200};
    int[] lastDue = {4, 4, 4, 104, 4, 4, 200};
    for (int kind = 0; kind < 7; kind++) {
      for (int figure : new int[] {1, 9}) {
        String border = "l00;l00;l" + kind + figure + ";l00;l" + kind + figure + ";";
        LaneAtBorder x = Check.of(border);
        x.keep(0, 1, 2);
        x.keep(7, 1, 4);
        String before = Check.lanes(x);
        int toll = kind == 6 ? 2 * (4 + figure) : 0;
        Check.due("of kind " + kind + ", figure " + figure, x.toss(0), due[kind] + toll);
        Check.due("of the last lane", x.toss(7), lastDue[kind] + toll);
        Check.due("nothing changes", Check.lanes(x), before);
      }
    }
    LaneAtBorder first = Check.of("l31;l01;");
    first.keep(0, 1, 0);
    first.keep(1, 1, 1);
    Check.due("the first lane, held", first.toss(0), 100);
    Check.due("the second", first.toss(1), 1);
    Check.says(38, "-15: FLED ones, and any with FIGURE 0, have none.");
    for (int kind = 0; kind < 8; kind++) {
      LaneAtBorder x = Check.of("l" + kind + "0;l71;l79;");
      for (int k = 0; k < 3; k++) {
        x.keep(k, 1, k);
        Check.due("of lane " + k + ", the first of kind " + kind, x.toss(k), -15);
      }
    }
  }

  private static void tossRefused() {
    Check.says(38, "-1, -11, -12 (a ROW);");
    for (int d : NO_SHELVES) {
      Check.unchanged(ShelfCases::stage, "toss(" + d + ")", x -> x.toss(d), -1);
    }
    Check.unchanged(ShelfCases::stage, "nothing held", x -> x.toss(7), -11);
    for (int d : new int[] {0, 1, 2, 4, 5}) {
      Check.unchanged(ShelfCases::stage, "a row in shelf " + d, x -> x.toss(d), -12);
    }
    Check.unchanged(ShelfCases::stage, "a failure", x -> x.toss(3), 214);
    Check.unchanged(ShelfCases::stage, "a failure of a held one", x -> x.toss(6), 101);
  }

  /** What the refusals mean is told once for all calls; here by one call each. */
  private static void refusals() {
    Check.says(34, "Their REFUSALS: -11 nothing is held where something is wanted;");
    Check.due("put", stage().put(7, 0, 0), -11);
    Check.says(34, "-12 it is of another kind;");
    Check.due("put", stage().put(3, 0, 0), -12);
    Check.says(34, "-13 a place that isn't there (a number or a size that isn't as told, too);");
    Check.due("put", stage().put(0, 5, 0), -13);
    Check.due("a size that isn't as told", stage().copy(0, 0, 1, 0, -1), -13);
    Check.says(33, "-14 a size below 0;");
    Check.due("row", stage().row(0, 0, -1), -14);
    Check.says(38, "-15 a FAILURE that is none.");
    LaneAtBorder fled = Check.of("l79;");
    fled.keep(0, 1, 0);
    Check.due("toss", fled.toss(0), -15);
    Check.says(
        6,
        "Answers of several refusals are the first one as they are told at the call: -1 no such thing,"
            + " a number out of range, or not as told; -2 no room; -3 it can't be as things stand; -4 none; -11 to -15;");
    LaneAtBorder x = Check.of("l5300000000;");
    Check.due("no sort, not open, no room", x.comes(0, 4), -1);
    Check.due("not open, no room", x.comes(0, 0), -3);
    Check.due("none", x.which(0), -4);
    Check.due("no room, not open", Check.of("l0000;l5300000000;").change(0, 1, 1, 0), -1000000002);
    Check.says(6, "A refused call changes nothing.");
    Check.unchanged(() -> Check.of("l5300000000;"), "comes", y -> y.comes(0, 0), -3);
  }
}
