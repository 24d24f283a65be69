import java.util.Arrays;
import java.util.function.Supplier;

/** Promises 24 to 28: news, grows, other, seeded, judge. */
final class NewsCases {
  private static final int FAR = -1000000000;
  private static final int[][] NO_NEWS = {
    {-100, 0, 0}, {100, 0, 0}, {Integer.MIN_VALUE, 0, 0}, {Integer.MAX_VALUE, 0, 0},
    {0, -1, 0}, {0, 6, 0}, {0, Integer.MIN_VALUE, 0}, {0, Integer.MAX_VALUE, 0},
    {0, 0, -1}, {0, 0, 21}, {0, 0, Integer.MIN_VALUE}, {0, 0, Integer.MAX_VALUE},
  };

  private NewsCases() {}

  static void run() {
    news();
    newsLate();
    newsHeld();
    newsRefused();
    grows();
    growsRefused();
    other();
    otherRefused();
    seeded();
    seededOneByOne();
    seededRefused();
    judge();
    judgeSkips();
    judgeRefused();
  }

  /** What d is behind 0, 1, .. times. */
  private static void news(int d, int g, int h, int... due) {
    for (int n = 0; n < due.length; n++) {
      Check.due("news(" + d + ", " + g + ", " + h + ", " + n + ")", new LaneAtBorder().news(d, g, h, n), due[n]);
    }
  }

  private static void news() {
    Check.says(24, "NEWS: two crossings, d the CARS that the one has more (d at first; -99 .. 99),");
    news(99, 5, 20, 99, -297);
    news(-99, 5, 20, -99, 297);
    news(0, 5, 20, 0, 0, 0, 0, 0, 0, 0, 0);
    Check.says(24, "each time h tenths (0 .. 20) of what d was");
    news(-99, 0, 0, -99, -99, -99);
    news(10, 0, 1, 10, 8, 8);
    news(10, 0, 5, 10, 0, 0);
    news(10, 0, 10, 10, -10, 10);
    news(10, 0, 20, 10, -30, 90);
    Check.says(24, "cut toward 0, change over");
    news(7, 0, 5, 7, 1, 1);
    news(-7, 0, 5, -7, -1, -1);
    news(9, 0, 1, 9, 9);
    news(-9, 0, 1, -9, -9);
    news(19, 0, 1, 19, 17);
    news(-19, 0, 1, -19, -17);
    Check.says(24, "NEWS: d behind n times.");
    Check.due("behind 60 times", new LaneAtBorder().news(10, 1, 5, 60), 10);
    Check.due("behind 59 times", new LaneAtBorder().news(10, 1, 5, 59), 10);
    Check.due("behind 58 times", new LaneAtBorder().news(10, 1, 5, 58), 0);
    Check.unchanged(() -> Check.of("l0012;m1;"), "news", x -> x.news(10, 1, 5, 60), 10);
  }

  private static void newsLate() {
    Check.says(24, "told g MINUTES late (0 .. 5):");
    news(10, 0, 6, 10, -2, 0, 0);
    news(10, 1, 5, 10, 0, -10, -10, 0, 10, 10);
    news(-10, 1, 5, -10, 0, 10, 10, 0, -10, -10);
    Check.says(24, "g times ago (d at first, ahead of that),");
    news(10, 2, 5, 10, 0, -10, -20, -20, -10, 10);
    news(10, 5, 1, 10, 8, 6, 4, 2, 0, -2, -2, -2, -2, -2, -2, -2);
    news(-10, 5, 1, -10, -8, -6, -4, -2, 0, 2, 2, 2);
  }

  private static void newsHeld() {
    Check.says(24, "(d is less by twice that, held to -9999 .. 9999): d behind n (0 .. 60) times;");
    news(99, 0, 20, 99, -297, 891, -2673, 8019, -9999, 9999, -9999);
    news(-99, 0, 20, -99, 297, -891, 2673, -8019, 9999, -9999, 9999);
    news(99, 5, 20, 99, -297, -693, -1089, -1485, -1881, -2277, -1089, 1683, 6039, 9999, 9999);
    Check.due("behind 60 times", new LaneAtBorder().news(99, 0, 20, 60), 9999);
  }

  private static void newsRefused() {
    Supplier<LaneAtBorder> stage = () -> Check.of("l0012;m1;");
    Check.says(24, "-1000000001.");
    for (int[] w : NO_NEWS) {
      Check.unchanged(stage, "news" + Arrays.toString(w), x -> x.news(w[0], w[1], w[2], 1), FAR - 1);
    }
    for (int wrong : new int[] {Integer.MIN_VALUE, -1, 61, Integer.MAX_VALUE}) {
      Check.unchanged(stage, "times " + wrong, x -> x.news(0, 0, 0, wrong), FAR - 1);
    }
  }

  private static void grows() {
    LaneAtBorder x = new LaneAtBorder();
    Check.says(25, "whether it GROWS: the greatest without sign of times 31 .. 60 is above that of times 1 .. 30: 1, 0.");
    Check.due("as wide as before", x.grows(10, 1, 5), 0);
    Check.due("wider", x.grows(10, 1, 6), 1);
    Check.due("wider below 0", x.grows(-10, 1, 6), 1);
    Check.due("less wide", x.grows(10, 0, 5), 0);
    Check.due("widest from time 30 on", x.grows(48, 0, 11), 0);
    Check.due("widest from time 31 on", x.grows(40, 0, 11), 1);
    Check.due("held at time 29", Math.abs(x.news(48, 0, 11, 29)) == 9999 ? 1 : 0, 0);
    Check.due("held at time 30", Math.abs(x.news(48, 0, 11, 30)), 9999);
    Check.due("held at time 30", Math.abs(x.news(40, 0, 11, 30)) == 9999 ? 1 : 0, 0);
    Check.due("held at time 31", Math.abs(x.news(40, 0, 11, 31)), 9999);
    Check.says(25, "GROWS: 1, 0.");
    Check.due("held from early on", x.grows(99, 0, 20), 0);
    Check.due("held from early on, below 0", x.grows(-99, 5, 20), 0);
    Check.due("none change over", x.grows(99, 0, 0), 0);
    Check.due("none more", x.grows(0, 5, 20), 0);
    Check.unchanged(() -> Check.of("l0012;m1;"), "grows", y -> y.grows(10, 1, 6), 1);
  }

  private static void growsRefused() {
    Check.says(25, "-1.");
    for (int[] w : NO_NEWS) {
      Check.unchanged(() -> Check.of("l0012;"), "grows" + Arrays.toString(w), x -> x.grows(w[0], w[1], w[2]), -1);
    }
    Check.due("the most of each", new LaneAtBorder().grows(99, 5, 20), 0);
    Check.due("the least of each", new LaneAtBorder().grows(-99, 0, 0), 0);
  }

  private static void other() {
    Supplier<LaneAtBorder> stage = () -> Check.of("l0033;l50;");
    Check.says(
        26,
        "OTHER crossing: w minutes away, t minutes there: 1, if w and t together are less than TIME in BEST of a SORT, else 0.");
    Check.unchanged(stage, "17 against 18", x -> x.other(0, 9, 8), 1);
    Check.unchanged(stage, "18 against 18", x -> x.other(0, 9, 9), 0);
    Check.due("18 against 19", stage.get().other(1, 9, 9), 1);
    Check.due("19 against 18", stage.get().other(0, 0, 19), 0);
    Check.due("0 against 18", stage.get().other(0, 0, 0), 1);
    Check.due("0 against 1", Check.of("l60;").other(0, 0, 0), 1);
    Check.due("1 against 1", Check.of("l60;").other(0, 1, 0), 0);
    Check.due("in best, not in which", Check.of("l0033;l403333;").other(0, 17, 1), 0);
    Check.says(26, "OTHER (w, t 0 .. 999): 1, 0; 1, if none is OPEN with room.");
    Check.due("w 999", stage.get().other(0, 999, 0), 0);
    Check.due("t 999", stage.get().other(0, 0, 999), 0);
    Check.due("both", stage.get().other(0, 999, 999), 0);
    Check.due("none is open", Check.of("l50;").other(0, 999, 999), 1);
    Check.due("none has room", Check.of("l0000000000;").other(0, 999, 999), 1);
    Check.due("no lanes", new LaneAtBorder().other(3, 999, 999), 1);
  }

  private static void otherRefused() {
    int[][] wrong = {
      {-1, 0, 0}, {4, 0, 0}, {Integer.MIN_VALUE, 0, 0}, {Integer.MAX_VALUE, 0, 0},
      {0, -1, 0}, {0, 1000, 0}, {0, Integer.MIN_VALUE, 0}, {0, Integer.MAX_VALUE, 0},
      {0, 0, -1}, {0, 0, 1000}, {0, 0, Integer.MIN_VALUE}, {0, 0, Integer.MAX_VALUE},
      {0, Integer.MAX_VALUE, Integer.MAX_VALUE},
    };
    Check.says(26, "-1.");
    for (int[] w : wrong) {
      String call = "other" + Arrays.toString(w);
      Check.unchanged(() -> Check.of("l0033;"), call, x -> x.other(w[0], w[1], w[2]), -1);
      Check.unchanged(() -> Check.of("l50;"), call + ", none open", x -> x.other(w[0], w[1], w[2]), -1);
    }
  }

  private static void seeded() {
    Check.says(27, "DRAWS: z becomes z times 1103515245 and 12345 (an int); a DRAW below n is (z without its sign's bit by 65536, cut) modulo n.");
    // By seed 1 minutes and sorts are 2 2, 1 3, 3 3, 2 3, 0 2, 1 3; by -1 1 1, 2 2, 1 2, 0 3, 0 2, 1 1.
    int[] by1 = {1, 2, 3, 3, 4, 5};
    int[] byMinus1 = {1, 2, 2, 3, 4, 5};
    for (int n = 1; n <= 6; n++) {
      LaneAtBorder x = Check.of("l00;");
      Check.due("seed 1 brings", x.seeded(n, 1, 0), n);
      Check.due("seed 1: there then", x.seeded(n, 1, 1), by1[n - 1]);
      Check.due("seed -1 brings", x.seeded(n, -1, 0), n);
      Check.due("seed -1: there then", x.seeded(n, -1, 1), byMinus1[n - 1]);
      Check.due("the sign's bit is dropped", x.seeded(n, Integer.MAX_VALUE, 1), byMinus1[n - 1]);
    }
    Check.says(27, "go where it SEEMS least; none: it goes home: how many came in; all CARS there then.");
    LaneAtBorder full = Check.of("l0033333333;");
    Check.due("they go home", full.seeded(3, 1, 0), 0);
    Check.due("those that stood", full.seeded(3, 1, 1), 8);
    Check.due("one finds room", full.seeded(6, 1, 0), 1);
    Check.due("full again", full.seeded(6, 1, 1), 8);
    Check.due("where it seems least", Check.of("l4033;l00;").seeded(6, 5, 1), 8);
    Check.due("a shut one", Check.of("l50;").seeded(30, 7, 0), 0);
    Check.due("no lanes", new LaneAtBorder().seeded(30, 7, 0), 0);
    Check.due("no lanes", new LaneAtBorder().seeded(30, 7, 1), 0);
  }

  /** What seeded is due to answer, found by the calls for one car each; 2 answers: how many, cars. */
  private static int[] oneByOne(LaneAtBorder x, int n, int z) {
    long seed = z & 0xffffffffL;
    int came = 0;
    for (int i = 0; i < n; i++) {
      seed = (seed * 1103515245L + 12345L) % 4294967296L;
      int minutes = (int) (seed % 2147483648L / 65536L % 4L);
      if (minutes > 0) {
        x.minutes(minutes);
      }
      seed = (seed * 1103515245L + 12345L) % 4294967296L;
      int sort = (int) (seed % 2147483648L / 65536L % 4L);
      came += x.comes(x.which(sort), sort) > 0 ? 1 : 0;
    }
    return new int[] {came, x.count(1)};
  }

  private static void seededOneByOne() {
    Check.says(
        27,
        "SEEDED: n CARS (1 .. 30) from a seed z, ahead of each (a DRAW below 4) MINUTES, then a SORT (a DRAW below 4),");
    Check.says(27, "SEEDED: how many (what 0), all CARS (1).");
    int[] seeds = {0, 1, -1, 5, 12345, Integer.MAX_VALUE, Integer.MIN_VALUE};
    for (int z : seeds) {
      for (int n : new int[] {1, 2, 29, 30}) {
        for (String border : new String[] {"l20;", "l0033;l52;l4033;"}) {
          int[] due = oneByOne(Check.of(border), n, z);
          Supplier<LaneAtBorder> stage = () -> Check.of(border);
          Check.unchanged(stage, n + " by seed " + z, x -> x.seeded(n, z, 0), due[0]);
          Check.unchanged(stage, n + " by seed " + z + ", all", x -> x.seeded(n, z, 1), due[1]);
        }
      }
    }
  }

  private static void seededRefused() {
    Check.says(27, "-1.");
    for (int wrong : new int[] {Integer.MIN_VALUE, -1, 0, 31, Integer.MAX_VALUE}) {
      Check.unchanged(() -> Check.of("l0033;"), "n " + wrong, x -> x.seeded(wrong, 1, 0), -1);
    }
    for (int wrong : new int[] {Integer.MIN_VALUE, -1, 2, Integer.MAX_VALUE}) {
      Check.unchanged(() -> Check.of("l0033;"), "what " + wrong, x -> x.seeded(1, 1, wrong), -1);
    }
  }

  private static void judge(String border, int lane, int due, int... row) {
    for (int sort = 0; sort < 3; sort++) {
      int told = sort;
      Supplier<LaneAtBorder> stage =
          () -> {
            LaneAtBorder x = Check.of(border);
            Check.numbers(x, 7, told, row);
            return x;
          };
      Check.unchanged(stage, "judge by " + Arrays.toString(row), x -> x.judge(lane, 7), due);
    }
  }

  private static void judge() {
    Check.says(28, "JUDGED: a ROW: how many CARS a told LANE has behind 1, 2, .. MINUTES: the first that isn't so");
    judge("l0000;l10000;", 0, -4, 2, 1, 1, 0, 0, 0);
    judge("l0000;l10000;", 1, -4, 2, 1, 0, 0);
    judge("l0000;l10000;", 1, 2, 2, 1, 1, 0);
    judge("l0000;l10000;", 0, 0, 1, 1, 1, 0);
    judge("l0000;l10000;", 0, 1, 2, 2, 2, 2);
    judge("l0000;l10000;", 0, 5, 2, 1, 1, 0, 0, -1);
    judge("l00;", 0, 0, 1);
    judge("l00;", 0, -4, 0);
    judge("l0000000000;", 0, -4, 8, 7, 7, 6);
    Check.says(28, "JUDGED of a LANE by the ROW in SHELF d; -4.");
    judge("l0000;", 0, -4);
    int[] hundred = new int[100];
    judge("l00;", 0, -4, hundred);
    hundred[99] = 1;
    judge("l00;", 0, 99, hundred);
  }

  private static void judgeSkips() {
    int[] least = {-128, -32768, Integer.MIN_VALUE};
    Check.says(28, "(the least number of the SORT is skipped); -4.");
    for (int sort = 0; sort < 3; sort++) {
      LaneAtBorder x = Check.of("l0000;");
      Check.numbers(x, 1, sort, 2, least[sort], 1, 1);
      Check.due("sort " + sort + ": the least number is skipped", x.judge(0, 1), 3);
      Check.numbers(x, 1, sort, least[sort], least[sort]);
      Check.due("sort " + sort + ": nothing else told", x.judge(0, 1), -4);
      Check.numbers(x, 1, sort, 2, least[sort] + 1, 1, 1);
      Check.due("sort " + sort + ": one more is not skipped", x.judge(0, 1), 1);
    }
    LaneAtBorder x = Check.of("l0000;");
    Check.numbers(x, 1, 1, 2, -128);
    Check.due("-128 among shorts", x.judge(0, 1), 1);
    Check.numbers(x, 1, 2, 2, -32768);
    Check.due("-32768 among ints", x.judge(0, 1), 1);
    Check.numbers(x, 1, 0, 2, 128);
    Check.due("128 is -128 among bytes", x.judge(0, 1), -4);
  }

  private static void judgeRefused() {
    Supplier<LaneAtBorder> stage =
        () -> {
          LaneAtBorder x = Check.of("l0012;l00;");
          x.keep(1, 1, 0);
          x.row(2, 2, 1);
          return x;
        };
    Check.says(28, "-1, -11, -12 (no ROW).");
    for (int wrong : new int[] {Integer.MIN_VALUE, -1, 2, 5, Integer.MAX_VALUE}) {
      Check.unchanged(stage, "no such lane", x -> x.judge(wrong, 2), -1);
      Check.unchanged(stage, "no such lane, nothing held", x -> x.judge(wrong, 7), -1);
      Check.unchanged(stage, "no such lane, a lane held", x -> x.judge(wrong, 1), -1);
    }
    for (int wrong : new int[] {Integer.MIN_VALUE, -1, 8, Integer.MAX_VALUE}) {
      Check.unchanged(stage, "no such shelf", x -> x.judge(0, wrong), -1);
    }
    Check.unchanged(stage, "nothing held", x -> x.judge(0, 7), -11);
    Check.unchanged(stage, "a lane held", x -> x.judge(0, 1), -12);
  }
}
