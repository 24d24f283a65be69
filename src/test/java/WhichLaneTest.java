/** Promises 8 to 12: which, best, regret, time, all. */
public final class WhichLaneTest {
  public static void main(String[] args) {
    whichAndBest();
    severalAlike();
    noneOpenWithRoom();
    refused();
    times();
    Check.end();
  }

  private static void whichAndBest() {
    // They seem 18, 8, 2 (all but one are hidden) and 5 minutes; they are 18, 6, 24 and 20.
    LaneAtBorder x = Check.of("l000123;l1012;l41002222;l2022;");
    Check.due("which(0)", x.which(0), 2);
    Check.due("best(0)", x.best(0), 1);
    Check.due("time behind the hidden ones", x.lane(2, 4), 24);
    Check.due("regret(0)", x.regret(0), 24 + 2 - (6 + 1));
    Check.due("regret(3)", x.regret(3), 24 + 8 - (6 + 7));
    LaneAtBorder byTime = Check.of("l090;l39;l63033;");
    Check.due("best for sort 3 is not the emptiest", byTime.best(3), 0);
    LaneAtBorder bySort = Check.of("l001;l79;");
    Check.due("best(0): 5 against 11", bySort.best(0), 0);
    Check.due("which(0)", bySort.which(0), 1);
    Check.due("regret(0)", bySort.regret(0), 6);
    LaneAtBorder left = Check.of("l003;m6;l002;");
    Check.due("which goes by what they take", left.which(0), 1);
    Check.due("best goes by what is left", left.best(0), 0);
    Check.due("regret", left.regret(0), 3);
    LaneAtBorder hidden = Check.of("l4033;l00;");
    Check.due("which is the first one", hidden.which(0), 0);
    Check.due("regret of the first one", hidden.regret(0), 18 - 2);
  }

  private static void severalAlike() {
    LaneAtBorder x = Check.of("l001;l00;l10;l00;");
    Check.due("which is the first that seems least", x.which(0), 1);
    Check.due("best is the quickest", x.best(0), 2);
    Check.due("regret", x.regret(0), 1);
    LaneAtBorder same = Check.of("l001;l00;l00;");
    Check.due("best is the first of the least", same.best(2), 1);
    Check.due("no regret", same.regret(2), 0);
    LaneAtBorder shut = Check.of("l50;l0100000000;l002;");
    Check.due("which passes by the shut and the full", shut.which(1), 2);
    Check.due("best passes by the shut and the full", shut.best(1), 2);
  }

  private static void noneOpenWithRoom() {
    LaneAtBorder x = Check.of("l50;l0100000000;l5933333333;");
    for (int sort = 0; sort < 4; sort++) {
      Check.due("which", x.which(sort), -4);
      Check.due("best", x.best(sort), -4);
      Check.due("regret", x.regret(sort), -4);
    }
    Check.due("without lanes", new LaneAtBorder().which(0), -4);
    Check.due("without lanes", new LaneAtBorder().best(0), -4);
    Check.due("without lanes", new LaneAtBorder().regret(0), -4);
  }

  private static void refused() {
    LaneAtBorder x = Check.of("l00;");
    LaneAtBorder none = new LaneAtBorder();
    int[] wrong = {-1, 4, Integer.MIN_VALUE, Integer.MAX_VALUE};
    for (int sort : wrong) {
      Check.due("which(" + sort + ")", x.which(sort), -1);
      Check.due("best(" + sort + ")", x.best(sort), -1);
      Check.due("regret(" + sort + ")", x.regret(sort), -1);
      Check.due("which(" + sort + ") without lanes", none.which(sort), -1);
      Check.due("best(" + sort + ") without lanes", none.best(sort), -1);
      Check.due("regret(" + sort + ") without lanes", none.regret(sort), -1);
    }
  }

  private static void times() {
    LaneAtBorder x = Check.of("l2012;l000;m1;l6333;l59;");
    int[][] due = {{5, 15}, {1}, {4, 8}, {}};
    int all = 0;
    for (int lane = 0; lane < 4; lane++) {
      for (int i = 0; i < due[lane].length; i++) {
        Check.due("time(" + lane + ", " + i + ")", x.time(lane, i), due[lane][i]);
        all += due[lane][i];
      }
      Check.due("behind the last", x.time(lane, due[lane].length), -1);
      Check.due("ahead of the first", x.time(lane, -1), -1);
    }
    Check.due("all", x.all(), all);
    Check.due("time(4, 0)", x.time(4, 0), -1);
    Check.due("time(-1, 0)", x.time(-1, 0), -1);
    x.minutes(5);
    Check.due("all behind 5 minutes", x.all(), 10 + 3);
    Check.due("all without lanes", new LaneAtBorder().all(), 0);
  }
}
