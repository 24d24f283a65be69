import java.util.Arrays;
import java.util.function.Supplier;

/** Promises 20 to 23: comers, opens, bySorts, advice. */
final class ComerCases {
  private static final int[] WILD = {Integer.MIN_VALUE, -1, Integer.MAX_VALUE};
  private static final String TWENTY = "01230123012301230123";

  private ComerCases() {}

  static void run() {
    comersByWhich();
    comersByBest();
    comersByNumber();
    comersEachSoManyMinutes();
    comersThatFindNoRoom();
    comersRefused();
    opens();
    opensAboveN();
    opensNotAbove5();
    opensRefused();
    bySorts();
    bySortsOfSeveral();
    bySortsRefused();
    advice();
    adviceRefused();
  }

  /** What comers is due to answer, found by the calls for one car each; 2 answers: how many, times. */
  private static int[] oneByOne(LaneAtBorder x, String digits, int m, int rule) {
    int came = 0;
    int times = 0;
    for (int i = 0; i < digits.length(); i++) {
      int sort = digits.charAt(i) - '0';
      if (i > 0 && m > 0) {
        x.minutes(m);
      }
      int lane = rule == 0 ? x.which(sort) : rule == 1 ? x.best(sort) : i % x.count(0);
      int time = x.comes(lane, sort);
      if (time > 0) {
        came++;
        times += time;
      }
    }
    return new int[] {came, times};
  }

  private static void sameOneByOne(String border, String digits, int m, int rule) {
    int[] due = oneByOne(Check.of(border), digits, m, rule);
    for (int what = 0; what < 2; what++) {
      int told = what;
      String call = "comers " + digits + ", m " + m + ", rule " + rule + ", what " + what + ", into " + border;
      Check.unchanged(() -> Check.of(border, digits), call, x -> x.comers(1, m, rule, told), due[what]);
    }
  }

  private static void comersByWhich() {
    Check.says(20, "COMES: a ROW of SORTS (bytes), one each m MINUTES (0 .. 9; ahead of each but the first m go by), choose WHICH (what 0),");
    Supplier<LaneAtBorder> stage = () -> Check.of("l00;l29;", "3210");
    Check.unchanged(stage, "how many", x -> x.comers(1, 0, 0, 0), 4);
    Check.unchanged(stage, "times", x -> x.comers(1, 0, 0, 1), 8 + 10 + 16 + 20);
    Check.due("none", Check.of("l00;", "").comers(1, 9, 0, 0), 0);
    Check.due("times of none", Check.of("l00;", "").comers(1, 9, 0, 1), 0);
    Check.due("one", Check.of("l00;", "3").comers(1, 9, 0, 1), 8);
    sameOneByOne("l403;l0012;l51;", TWENTY, 0, 0);
    sameOneByOne("l403;l0012;l51;", TWENTY, 9, 0);
  }

  private static void comersByBest() {
    Check.says(20, "BEST (1),");
    Check.due("times", Check.of("l00;l29;", "3210").comers(1, 0, 1, 1), 8 + 10 + 11 + 13);
    sameOneByOne("l403;l0012;l51;", TWENTY, 0, 1);
    sameOneByOne("l403;l0012;l51;", TWENTY, 9, 1);
  }

  private static void comersByNumber() {
    Check.says(20, "the LANE of their number modulo LANES, if that is OPEN and has room (2):");
    Check.due("times", Check.of("l00;l29;", "3210").comers(1, 0, 2, 1), 8 + 10 + 11 + 14);
    Check.due("behind those that stand", Check.of("l003;l29;", "3210").comers(1, 0, 2, 1), 16 + 10 + 19 + 14);
    Check.due("the sixth of five lanes", Check.of("l10;l00;l00;l00;l00;", "000000").comers(1, 0, 2, 1), 1 + 4 * 2 + 2);
    Check.due("the shut one's turn is lost", Check.of("l51;l00;", "00000").comers(1, 0, 2, 0), 3);
    Check.due("the shut one's turn is lost", Check.of("l51;l00;", "00000").comers(1, 0, 2, 1), 5 + 2 + 4);
    Check.due("the full one's turn is lost", Check.of("l000000000;l00;", "00000").comers(1, 0, 2, 0), 3);
    Check.due("the full one's turn is lost", Check.of("l000000000;l00;", "00000").comers(1, 0, 2, 1), 16 + 2 + 4);
    Check.due("no lanes", Check.of("", "0123").comers(1, 1, 2, 0), 0);
    Check.due("no lanes", Check.of("", "0123").comers(1, 1, 2, 1), 0);
    sameOneByOne("l403;l0012;l51;", TWENTY, 0, 2);
    sameOneByOne("l403;l0012;l51;", TWENTY, 9, 2);
  }

  private static void comersEachSoManyMinutes() {
    Check.says(20, "one each m MINUTES (0 .. 9; ahead of each but the first m go by)");
    Check.due("each 3 minutes", Check.of("l00;l29;", "3210").comers(1, 3, 0, 1), 8 + 10 + 13 + 2);
    Check.due("each 9 minutes", Check.of("l00;l29;", "3210").comers(1, 9, 0, 1), 8 + 5 + 3 + 2);
    Check.due("no minutes ahead of the first", Check.of("l003;", "0").comers(1, 9, 0, 1), 8 + 2);
    Check.due("no minutes at all", Check.of("l003;", "00").comers(1, 0, 0, 1), 8 + 2 + 8 + 4);
    Check.due("a minute", Check.of("l003;", "00").comers(1, 1, 0, 1), 8 + 2 + 8 + 4 - 1);
  }

  private static void comersThatFindNoRoom() {
    Check.says(20, "how many came in; all their TIMES together, told as they came in.");
    for (int rule = 0; rule < 3; rule++) {
      Check.due("no room", Check.of("l0000000000;", "00").comers(1, 0, rule, 0), 0);
      Check.due("no room", Check.of("l0000000000;", "00").comers(1, 0, rule, 1), 0);
      Check.due("room for one", Check.of("l000000000;", "00").comers(1, 0, rule, 0), 1);
      Check.due("room for one", Check.of("l000000000;", "00").comers(1, 0, rule, 1), 16);
      Check.due("room by then", Check.of("l0000000000;", "00").comers(1, 2, rule, 0), 1);
      Check.due("room by then", Check.of("l0000000000;", "00").comers(1, 2, rule, 1), 16);
      Check.due("a shut one", Check.of("l52;", "000").comers(1, 0, rule, 0), 2);
      Check.due("twenty into one lane", Check.of("l00;", TWENTY).comers(1, 0, rule, 0), 8);
    }
    Check.says(20, "COMES by the ROW of SORTS in SHELF d: how many (what 0), TIMES (1).");
    for (int rule = 0; rule < 3; rule++) {
      Check.due("no lanes", Check.of("", TWENTY).comers(1, 9, rule, 0), 0);
      Check.due("no lanes", Check.of("", TWENTY).comers(1, 9, rule, 1), 0);
    }
    LaneAtBorder x = Check.of("l00;");
    Check.sorts(x, 7, "33");
    Check.due("of the last shelf", x.comers(7, 0, 0, 1), 8 + 16);
  }

  /** Shelf 0 nothing, 1 twenty sorts, 2 a lane, 3 21 shorts, 4 21 ints, 5 21 bytes, 6 and 7 no sort last. */
  private static LaneAtBorder shelves() {
    LaneAtBorder x = Check.of("l0012;l51;m1;", TWENTY);
    x.image();
    x.keep(2, 1, 0);
    x.row(3, 1, 21);
    x.row(4, 2, 21);
    x.row(5, 0, 21);
    Check.numbers(x, 6, 0, 0, 4);
    Check.numbers(x, 7, 0, 3, -1);
    return x;
  }

  private static final int[][] NO_SORTS_IN = {
    {-1, -1}, {8, -1}, {Integer.MIN_VALUE, -1}, {Integer.MAX_VALUE, -1},
    {0, -11}, {2, -12}, {3, -12}, {4, -12}, {5, -13}, {6, -13}, {7, -13},
  };

  private static void comersRefused() {
    Check.says(20, "A ROW of SORTS in a SHELF: -1, -11, -12 (no ROW of bytes), -13 (above 20 elements, no SORT).");
    for (int[] s : NO_SORTS_IN) {
      Check.unchanged(ComerCases::shelves, "comers of shelf " + s[0], x -> x.comers(s[0], 9, 2, 1), s[1]);
    }
    Check.due("twenty elements", Check.of("l10;", TWENTY).comers(1, 9, 0, 0), 20);
    Check.due("the first is no sort", Check.of("l10;", "40").comers(1, 0, 0, 0), -13);
    LaneAtBorder wrapped = Check.of("l10;");
    Check.numbers(wrapped, 1, 0, 256 + 3, 4);
    Check.due("no sort", wrapped.comers(1, 0, 0, 1), -13);
    wrapped.put(1, 1, -256);
    Check.due("sorts that wrapped around", wrapped.comers(1, 0, 0, 1), 7 + 8);
    Check.numbers(wrapped, 1, 0, 9, 9);
    for (int n = 0; n < 2; n++) {
      wrapped.row(1, 0, n);
      Check.due("what stood there does not matter", wrapped.comers(1, 0, 0, 0), n);
    }
    Check.says(20, "-1; of the ROW.");
    for (int d = -1; d <= 8; d++) {
      int shelf = d;
      for (int wrong : WILD) {
        Check.unchanged(ComerCases::shelves, "m " + wrong, x -> x.comers(shelf, wrong, 0, 0), -1);
        Check.unchanged(ComerCases::shelves, "rule " + wrong, x -> x.comers(shelf, 0, wrong, 0), -1);
        Check.unchanged(ComerCases::shelves, "what " + wrong, x -> x.comers(shelf, 0, 0, wrong), -1);
      }
      Check.unchanged(ComerCases::shelves, "m 10", x -> x.comers(shelf, 10, 0, 0), -1);
      Check.unchanged(ComerCases::shelves, "rule 3", x -> x.comers(shelf, 0, 3, 0), -1);
      Check.unchanged(ComerCases::shelves, "what 2", x -> x.comers(shelf, 0, 0, 2), -1);
    }
  }

  private static void opens(String border, String digits, int m, int n, int due) {
    String call = "opens for " + digits + ", m " + m + ", n " + n + ", at " + border;
    Check.unchanged(() -> Check.of(border, digits), call, x -> x.opens(1, m, n), due);
  }

  private static void opens() {
    Check.says(21, "OPENS: COMES by WHICH, but if, ahead of a CAR,");
    opens("l00;", "333", 9, 8, 0);
    opens("l00;", "333", 8, 8, 0);
    opens("l00;", "333", 7, 8, 1);
    opens("l003;", "0", 9, 5, 1);
    // The car goes where it seems least, not to the new lane: that is behind the hidden one.
    opens("l4033;", "000", 0, 1, 1);
    opens("l00;", "", 0, 0, 0);
    Check.says(21, "OPENS.");
    LaneAtBorder x = Check.of("l00;");
    Check.sorts(x, 7, "33");
    Check.due("of the last shelf", x.opens(7, 0, 0), 2);
  }

  private static void opensAboveN() {
    Check.says(21, "its TIME in BEST is above told n (0 .. 99), or none is OPEN with room, a LANE of KIND 6 and FIGURE 0 comes first");
    opens("l00;", "333", 0, 99, 0);
    opens("l00;", "333", 0, 8, 1);
    opens("l00;", "333", 0, 7, 2);
    opens("l00;", "3", 0, 8, 0);
    opens("l00;", "3", 0, 7, 1);
    opens("l60;", "3", 0, 4, 0);
    opens("l60;", "3", 0, 3, 1);
    opens("l20333330;", "3", 0, 99, 1);
    opens("l3933322;", "0", 0, 99, 0);
    opens("l3933322;", "0", 0, 98, 1);
    opens("l39333;l3933;", "3", 0, 99, 0);
    opens("l39333;l39333;", "3", 0, 99, 1);
    opens("l00;", "000", 0, 0, 3);
    opens("l50;", "0", 0, 99, 1);
    opens("l51;", "00", 0, 99, 1);
    opens("l0000000000;", "0", 0, 99, 1);
    opens("l000000000;", "0", 0, 99, 0);
    opens("", "00", 0, 99, 1);
    opens("", "0000000000", 0, 99, 2);
  }

  private static void opensNotAbove5() {
    Check.says(21, "(not above 5 LANES): how many LANES come so.");
    opens("l00;", "33333333333333333333", 0, 0, 4);
    opens("", "33333333333333333333", 0, 0, 5);
    opens("l50;l50;l50;l50;", "00", 0, 0, 1);
    opens("l50;l50;l50;l50;l50;", "00", 0, 0, 0);
    opens("l00;l00;l00;l00;l00;", "33", 0, 0, 0);
  }

  private static void opensRefused() {
    Check.says(21, "-1; of the ROW.");
    for (int[] s : NO_SORTS_IN) {
      Check.unchanged(ComerCases::shelves, "opens of shelf " + s[0], x -> x.opens(s[0], 9, 99), s[1]);
    }
    Check.due("twenty elements", Check.of("l10;", TWENTY).opens(1, 9, 99), 0);
    for (int d = -1; d <= 8; d++) {
      int shelf = d;
      for (int wrong : WILD) {
        Check.unchanged(ComerCases::shelves, "m " + wrong, x -> x.opens(shelf, wrong, 0), -1);
        Check.unchanged(ComerCases::shelves, "n " + wrong, x -> x.opens(shelf, 0, wrong), -1);
      }
      Check.unchanged(ComerCases::shelves, "m 10", x -> x.opens(shelf, 10, 0), -1);
      Check.unchanged(ComerCases::shelves, "n 100", x -> x.opens(shelf, 0, 100), -1);
    }
  }

  private static void bySorts(String border, String digits, int way, int sum) {
    String call = "bySorts of " + digits + " at " + border;
    Check.unchanged(() -> Check.of(border, digits), call, x -> x.bySorts(1, 0), way);
    Check.unchanged(() -> Check.of(border, digits), call + ", sum", x -> x.bySorts(1, 1), sum);
  }

  private static void bySorts() {
    Check.says(
        22,
        "BY SORTS: of all ways to tell each SORT a LANE (KINDS as they are, no CARS but those of a ROW of SORTS"
            + " (bytes, 20 at most), all at once, in order; LANES hold any number then) that with the least TIMES together;");
    bySorts("l0033333;l10;", "01", 1, 1 + 3);
    bySorts("l1000000000;", "00000000000000000000", 0, 210);
    bySorts("l50;", "0", 0, 5);
    bySorts("l79;l79;l79;l79;l60;", "0123", 4444, 1 + 2 + 4 + 8);
    bySorts("l00;", "30", 0, 8 + 10);
    bySorts("l00;", "03", 0, 2 + 10);
    bySorts("l00;", "", 0, 0);
    bySorts("l00;", "3", 0, 8);
    bySorts("l3933333333;", "33333333333333333333", 0, 25 * 210);
  }

  private static void bySortsOfSeveral() {
    Check.says(22, "of several the least as digits (SORT 0 the lowest); that sum.");
    bySorts("l00;l10;", "33", 1000, 7 + 14);
    bySorts("l00;l10;", "22", 100, 4 + 8);
    bySorts("l00;l10;", "11", 10, 2 + 4);
    bySorts("l00;l10;", "00", 1, 1 + 2);
    bySorts("l00;l00;", "01", 1, 2 + 3);
    bySorts("l00;l00;", "23", 100, 5 + 8);
    bySorts("l00;l00;l00;l00;l00;", "0123", 123, 2 + 3 + 5 + 8);
    bySorts("l00;l00;l00;l00;l00;", "", 0, 0);
  }

  private static void bySortsRefused() {
    Check.says(22, "BY SORTS: the digits (what 0), the sum (1); -4: no LANES.");
    for (int what = 0; what < 2; what++) {
      int told = what;
      Check.unchanged(() -> Check.of("", TWENTY), "no lanes", x -> x.bySorts(1, told), -4);
      Check.unchanged(() -> Check.of("", ""), "no lanes, no cars", x -> x.bySorts(1, told), -4);
      Check.due("no lanes, no sort", Check.of("", "4").bySorts(1, told), -13);
      Check.due("no lanes, nothing held", new LaneAtBorder().bySorts(1, told), -11);
      Check.due("no lanes, no such shelf", new LaneAtBorder().bySorts(8, told), -1);
    }
    Check.due("no lanes, what 2", Check.of("", TWENTY).bySorts(1, 2), -1);
    Check.says(22, "-1; of the ROW.");
    for (int[] s : NO_SORTS_IN) {
      Check.unchanged(ComerCases::shelves, "bySorts of shelf " + s[0], x -> x.bySorts(s[0], 1), s[1]);
    }
    for (int d = -1; d <= 8; d++) {
      int shelf = d;
      for (int wrong : new int[] {Integer.MIN_VALUE, -1, 2, Integer.MAX_VALUE}) {
        Check.unchanged(ComerCases::shelves, "what " + wrong, x -> x.bySorts(shelf, wrong), -1);
      }
    }
  }

  private static void advice() {
    Check.says(23, "ADVICE at c pence a minute: REGRET of a SORT times c.");
    for (int c : new int[] {0, 1, 2, 98, 99}) {
      Check.unchanged(() -> Check.of("l001;l79;"), "advice(0, " + c + ")", x -> x.advice(0, c), 6 * c);
    }
    Check.due("of sort 3", Check.of("l39;l0033;").advice(3, 10), 10);
    Check.due("no regret", Check.of("l00;l00;").advice(3, 99), 0);
    Check.says(23, "ADVICE (c 0 .. 99).");
    Check.due("at 0", Check.of("l001;l79;").advice(0, 0), 0);
    Check.due("at 99", Check.of("l001;l79;").advice(0, 99), 594);
  }

  private static void adviceRefused() {
    Supplier<LaneAtBorder> open = () -> Check.of("l001;l79;");
    Supplier<LaneAtBorder> none = () -> Check.of("l50;l0100000000;");
    int[][] wrong = {
      {-1, 1}, {4, 1}, {Integer.MIN_VALUE, 1}, {Integer.MAX_VALUE, 1},
      {0, -1}, {0, 100}, {0, Integer.MIN_VALUE}, {0, Integer.MAX_VALUE},
    };
    Check.says(23, "-1, -4: none is OPEN with room.");
    for (int[] w : wrong) {
      Check.unchanged(open, "advice" + Arrays.toString(w), x -> x.advice(w[0], w[1]), -1);
      Check.unchanged(none, "advice" + Arrays.toString(w) + ", none open", x -> x.advice(w[0], w[1]), -1);
    }
    for (int c : new int[] {0, 1, 99}) {
      Check.unchanged(none, "none is open with room", x -> x.advice(3, c), -4);
      Check.due("no lanes", new LaneAtBorder().advice(0, c), -4);
    }
  }
}
