/** Promises 24 to 28: news, grows, other, seeded, judge. */
public final class NewsTest {
  private static final int FAR = -1000000000;

  public static void main(String[] args) {
    news();
    grows();
    newsRefused();
    other();
    seeded();
    judge();
    judgeRefused();
    Check.end();
  }

  private static void news() {
    LaneAtBorder x = new LaneAtBorder();
    Check.due("no time yet", x.news(10, 0, 5, 0), 10);
    Check.due("half of them change over", x.news(10, 0, 5, 1), 0);
    Check.due("cut toward 0", x.news(7, 0, 5, 1), 1);
    Check.due("cut toward 0 below 0", x.news(-7, 0, 5, 1), -1);
    Check.due("less than one changes over", x.news(7, 0, 5, 2), 1);
    int[] late = {10, 0, -10, -10, 0, 10, 10};
    for (int n = 0; n < late.length; n++) {
      Check.due("a minute late, behind " + n, x.news(10, 1, 5, n), late[n]);
      Check.due("below 0, behind " + n, x.news(-10, 1, 5, n), -late[n]);
    }
    Check.due("a minute late, behind 60", x.news(10, 1, 5, 60), 10);
    int[] later = {10, 8, 6, 4, 2, 0, -2, -2};
    for (int n = 0; n < later.length; n++) {
      Check.due("five minutes late, behind " + n, x.news(10, 5, 1, n), later[n]);
    }
    int[] held = {99, -297, 891, -2673, 8019, -9999, 9999, -9999};
    for (int n = 0; n < held.length; n++) {
      Check.due("held, behind " + n, x.news(99, 0, 20, n), held[n]);
    }
    Check.due("none change over", x.news(-99, 5, 0, 60), -99);
    Check.due("none more", x.news(0, 5, 20, 60), 0);
  }

  private static void grows() {
    LaneAtBorder x = new LaneAtBorder();
    Check.due("grows(10, 0, 5)", x.grows(10, 0, 5), 0);
    Check.due("as wide as before", x.grows(10, 1, 5), 0);
    Check.due("wider", x.grows(10, 1, 6), 1);
    Check.due("wider below 0", x.grows(-10, 1, 6), 1);
    Check.due("widest at time 30", x.grows(10, 3, 7), 0);
    Check.due("wider at time 31", x.grows(11, 4, 7), 1);
    Check.due("held from early on", x.grows(99, 0, 20), 0);
    Check.due("none change over", x.grows(99, 0, 0), 0);
    Check.due("none more", x.grows(0, 5, 20), 0);
  }

  private static void newsRefused() {
    LaneAtBorder x = new LaneAtBorder();
    int[][] wrong = {{-100, 0, 0}, {100, 0, 0}, {0, -1, 0}, {0, 6, 0}, {0, 0, -1}, {0, 0, 21}};
    for (int[] w : wrong) {
      String numbers = java.util.Arrays.toString(w);
      Check.due("news of " + numbers, x.news(w[0], w[1], w[2], 1), FAR - 1);
      Check.due("grows of " + numbers, x.grows(w[0], w[1], w[2]), -1);
    }
    Check.due("times below 0", x.news(0, 0, 0, -1), FAR - 1);
    Check.due("times above 60", x.news(0, 0, 0, 61), FAR - 1);
  }

  private static void other() {
    LaneAtBorder x = Check.of("l0033;l50;");
    Check.due("17 against 18", x.other(0, 9, 8), 1);
    Check.due("18 against 18", x.other(0, 9, 9), 0);
    Check.due("18 against 19", x.other(1, 9, 9), 1);
    Check.due("0 against 18", x.other(0, 0, 0), 1);
    Check.due("far away", x.other(0, 999, 999), 0);
    LaneAtBorder none = Check.of("l50;");
    Check.due("none is open with room", none.other(0, 999, 999), 1);
    Check.due("no lanes", new LaneAtBorder().other(3, 999, 999), 1);
    int[][] wrong = {{-1, 0, 0}, {4, 0, 0}, {0, -1, 0}, {0, 1000, 0}, {0, 0, -1}, {0, 0, 1000}};
    for (int[] w : wrong) {
      Check.due("other" + java.util.Arrays.toString(w), x.other(w[0], w[1], w[2]), -1);
      Check.due("none open, other" + java.util.Arrays.toString(w), none.other(w[0], w[1], w[2]), -1);
    }
  }

  private static void seeded() {
    LaneAtBorder x = Check.of("l00;");
    String before = Check.everything(x);
    // By seed 1 minutes and sorts are 2 2, 1 3, 3 3, 2 3, 0 2, 1 3; by -1 1 1, 2 2, 1 2, 0 3, 0 2, 1 1.
    int[] by1 = {1, 2, 3, 3, 4, 5};
    int[] byMinus1 = {1, 2, 2, 3, 4, 5};
    for (int n = 1; n <= 6; n++) {
      Check.due("seed 1 brings", x.seeded(n, 1, 0), n);
      Check.due("seed 1: there then", x.seeded(n, 1, 1), by1[n - 1]);
      Check.due("seed -1 brings", x.seeded(n, -1, 0), n);
      Check.due("seed -1: there then", x.seeded(n, -1, 1), byMinus1[n - 1]);
      Check.due("the sign's bit is dropped", x.seeded(n, Integer.MAX_VALUE, 1), byMinus1[n - 1]);
    }
    Check.due("nothing changed", Check.everything(x), before);
    LaneAtBorder full = Check.of("l0033333333;");
    Check.due("they go home", full.seeded(3, 1, 0), 0);
    Check.due("those that stood", full.seeded(3, 1, 1), 8);
    Check.due("one finds room", full.seeded(6, 1, 0), 1);
    Check.due("full again", full.seeded(6, 1, 1), 8);
    LaneAtBorder hidden = Check.of("l4033;l00;");
    Check.due("where it seems least", hidden.seeded(6, 5, 1), 8);
    Check.due("no lanes", new LaneAtBorder().seeded(30, 7, 0), 0);
    Check.due("no lanes", new LaneAtBorder().seeded(30, 7, 1), 0);
    int[][] wrong = {{0, 1, 0}, {31, 1, 0}, {-1, 1, 0}, {1, 1, -1}, {1, 1, 2}};
    for (int[] w : wrong) {
      Check.due("seeded" + java.util.Arrays.toString(w), x.seeded(w[0], w[1], w[2]), -1);
    }
  }

  private static void judge() {
    LaneAtBorder x = Check.of("l0000;l10000;");
    for (int sort = 0; sort < 3; sort++) {
      Check.numbers(x, sort, sort, 2, 1, 1, 0, 0, 0);
      Check.due("as told, in a row of sort " + sort, x.judge(0, sort), -4);
      Check.due("not of the other lane", x.judge(1, sort), 2);
    }
    Check.numbers(x, 0, 0, 2, -128, 1, 1);
    Check.due("bytes: -128 is skipped", x.judge(0, 0), 3);
    Check.numbers(x, 0, 0, 2, -127, 1, 1);
    Check.due("bytes: -127 is not", x.judge(0, 0), 1);
    Check.numbers(x, 1, 1, 2, -32768, 1, 1);
    Check.due("shorts: -32768 is skipped", x.judge(0, 1), 3);
    Check.numbers(x, 1, 1, 2, -128, 1, 1);
    Check.due("shorts: -128 is not", x.judge(0, 1), 1);
    Check.numbers(x, 2, 2, 2, Integer.MIN_VALUE, 1, 1);
    Check.due("ints: the least one is skipped", x.judge(0, 2), 3);
    Check.numbers(x, 2, 2, 2, -32768, 1, 1);
    Check.due("ints: -32768 is not", x.judge(0, 2), 1);
    Check.numbers(x, 2, 2);
    Check.due("nothing told", x.judge(0, 2), -4);
    String before = Check.everything(x);
    x.judge(0, 1);
    Check.due("nothing changed", Check.everything(x), before);
    LaneAtBorder empty = Check.of("l00;");
    empty.row(3, 0, 100);
    empty.put(3, 99, 1);
    Check.due("the hundredth minute", empty.judge(0, 3), 99);
  }

  private static void judgeRefused() {
    LaneAtBorder x = Check.of("l00;");
    x.keep(1, 1, 0);
    x.row(2, 0, 1);
    Check.due("no such lane", x.judge(1, 2), -1);
    Check.due("no such lane, nothing held", x.judge(-1, 7), -1);
    Check.due("no such shelf", x.judge(0, -1), -1);
    Check.due("no such shelf", x.judge(0, 8), -1);
    Check.due("nothing held", x.judge(0, 7), -11);
    Check.due("a lane", x.judge(0, 1), -12);
  }
}
