import java.util.function.Supplier;

/** Promises 8 to 12: which, best, regret, time, all. */
final class WhichCases {
  private static final int[] NO_SORTS = {Integer.MIN_VALUE, -1, 4, Integer.MAX_VALUE};
  /** One is shut, one is full and shows no car, one is shut only when it is full. */
  private static final String NONE_OPEN = "l50;l4000000000;l5933333333;";

  private WhichCases() {}

  static void run() {
    which();
    best();
    regret();
    refused();
    time();
    all();
  }

  private static void which() {
    Check.says(8, "WHICH: of OPEN LANES with room that which SEEMS least, of several the least number; -4 none.");
    // They seem 18, 8, 2 (all but one are hidden) and 5 minutes; they are 18, 6, 24 and 20.
    Check.due("that which seems least", Check.of("l000123;l1012;l41002222;l2022;").which(0), 2);
    Check.due("by what they take, not by what is left", Check.of("l003;m6;l002;").which(0), 1);
    Check.due("of several the first", Check.of("l001;l00;l10;l00;").which(0), 1);
    Check.due("of all alike the first", Check.of("l001;l001;l001;").which(3), 0);
    Check.due("the last one", Check.of("l001;l001;l001;l001;l000;").which(3), 4);
    Check.due("shut ones are passed by", Check.of("l50;l003;").which(0), 1);
    Check.due("shut ones at their figure are passed by", Check.of("l510;l003;").which(0), 1);
    Check.due("shut ones below their figure are not", Check.of("l520;l003;").which(0), 0);
    Check.due("full ones are passed by", Check.of("l4000000000;l003;").which(0), 1);
    Check.due("those with room for one are not", Check.of("l400000000;l003;").which(0), 0);
    Check.says(8, "WHICH; -4.");
    for (int sort = 0; sort < 4; sort++) {
      Check.due("none is open with room", Check.of(NONE_OPEN).which(sort), -4);
      Check.due("no lanes", new LaneAtBorder().which(sort), -4);
      Check.due("the only one", Check.of("l4700;").which(sort), 0);
    }
  }

  private static void best() {
    Check.says(9, "BEST: likewise that with the least TIME.");
    LaneAtBorder x = Check.of("l000123;l1012;l41002222;l2022;");
    Check.due("that with the least time", x.best(0), 1);
    Check.due("by what is left", Check.of("l003;m6;l002;").best(0), 0);
    Check.due("5 against 11", Check.of("l001;l79;").best(0), 0);
    Check.due("25 against 24, by sort", Check.of("l39;l0033;").best(3), 1);
    Check.due("25 against 25, the first", Check.of("l39;l003200;").best(3), 0);
    Check.due("of several the first", Check.of("l001;l00;l00;").best(2), 1);
    Check.due("of all alike the first", Check.of("l001;l001;l001;").best(3), 0);
    Check.due("the last one", Check.of("l001;l001;l001;l001;l000;").best(3), 4);
    Check.due("shut ones are passed by", Check.of("l50;l0033;").best(0), 1);
    Check.due("shut ones below their figure are not", Check.of("l51;l0033;").best(0), 0);
    Check.due("full ones are passed by", Check.of("l6000000000;l3933;").best(0), 1);
    Check.due("those with room for one are not", Check.of("l600000000;l3933;").best(0), 0);
    Check.says(9, "BEST; -4.");
    for (int sort = 0; sort < 4; sort++) {
      Check.due("none is open with room", Check.of(NONE_OPEN).best(sort), -4);
      Check.due("no lanes", new LaneAtBorder().best(sort), -4);
      Check.due("the only one", Check.of("l4700;").best(sort), 0);
    }
  }

  private static void regret() {
    Check.says(10, "REGRET: TIME in WHICH less TIME in BEST.");
    LaneAtBorder x = Check.of("l000123;l1012;l41002222;l2022;");
    Check.due("of sort 0", x.regret(0), 24 + 2 - (6 + 1));
    Check.due("of sort 3", x.regret(3), 24 + 8 - (6 + 7));
    Check.due("by what is left", Check.of("l003;m6;l002;").regret(0), 5 + 2 - (2 + 2));
    Check.due("the one and the same", Check.of("l001;l00;l00;").regret(2), 0);
    Check.due("as long in another one", Check.of("l001;l401;").regret(0), 0);
    Check.due("a full one and a shut one do not count", Check.of("l4000000000;l50;l0033;").regret(0), 0);
    Check.says(10, "REGRET.");
    Check.due("far more", Check.of("l403333333;l60;").regret(0), 56 + 2 - 1);
  }

  private static void refused() {
    Supplier<LaneAtBorder> open = () -> Check.of("l0012;l51;");
    Supplier<LaneAtBorder> none = () -> Check.of(NONE_OPEN);
    Check.says(8, "-1.");
    for (int sort : NO_SORTS) {
      Check.unchanged(open, "which(" + sort + ")", x -> x.which(sort), -1);
      Check.unchanged(none, "which(" + sort + "), none open", x -> x.which(sort), -1);
      Check.due("which(" + sort + ") without lanes", new LaneAtBorder().which(sort), -1);
    }
    Check.says(9, "-1.");
    for (int sort : NO_SORTS) {
      Check.unchanged(open, "best(" + sort + ")", x -> x.best(sort), -1);
      Check.unchanged(none, "best(" + sort + "), none open", x -> x.best(sort), -1);
      Check.due("best(" + sort + ") without lanes", new LaneAtBorder().best(sort), -1);
    }
    Check.says(10, "-1, -4: none is OPEN with room.");
    for (int sort : NO_SORTS) {
      Check.unchanged(open, "regret(" + sort + ")", x -> x.regret(sort), -1);
      Check.unchanged(none, "regret(" + sort + "), none open", x -> x.regret(sort), -1);
      Check.due("regret(" + sort + ") without lanes", new LaneAtBorder().regret(sort), -1);
    }
    for (int sort = 0; sort < 4; sort++) {
      int told = sort;
      Check.unchanged(none, "regret(" + sort + ")", x -> x.regret(told), -4);
      Check.due("regret without lanes", new LaneAtBorder().regret(sort), -4);
    }
  }

  private static void time() {
    Supplier<LaneAtBorder> stage = () -> Check.of("l2012;l000;m1;l6333333333;l59;");
    int[][] due = {{5, 15}, {1}, {4, 8, 12, 16, 20, 24, 28, 32}, {}};
    Check.says(11, "Of CARS that stand: a CAR's TIME is when it is over as it stands.");
    for (int lane = 0; lane < 4; lane++) {
      for (int i = 0; i < due[lane].length; i++) {
        LaneAtBorder x = stage.get();
        Check.due("time(" + lane + ", " + i + ")", x.time(lane, i), due[lane][i]);
        x.minutes(due[lane][i] - 1);
        int gone = x.lane(lane, 8);
        x.minutes(1);
        Check.due("it goes over then", x.lane(lane, 8), gone + 1);
      }
    }
    Check.says(11, "TIME of the CAR at place i of a LANE.");
    Check.due("of the first: what is left", Check.of("l3933;m24;").time(0, 0), 1);
    Check.due("of the second", Check.of("l3933;m24;").time(0, 1), 1 + 25);
    Check.says(11, "-1.");
    for (int lane = 0; lane < 4; lane++) {
      int told = lane;
      Check.unchanged(stage, "behind the last", x -> x.time(told, due[told].length), -1);
      Check.unchanged(stage, "ahead of the first", x -> x.time(told, -1), -1);
    }
    for (int wrong : new int[] {Integer.MIN_VALUE, -1, 4, 5, Integer.MAX_VALUE}) {
      Check.unchanged(stage, "time(" + wrong + ", 0)", x -> x.time(wrong, 0), -1);
    }
    Check.unchanged(stage, "far behind", x -> x.time(0, Integer.MAX_VALUE), -1);
    Check.unchanged(stage, "far ahead", x -> x.time(0, Integer.MIN_VALUE), -1);
  }

  private static void all() {
    Check.says(12, "ALL: all TIMES of CARS that stand together.");
    LaneAtBorder x = Check.of("l2012;l000;m1;l6333;l59;");
    Check.due("all", x.all(), 5 + 15 + 1 + 4 + 8);
    x.minutes(5);
    Check.due("all behind 5 minutes", x.all(), 10 + 3);
    x.minutes(60);
    Check.due("none stands any more", x.all(), 0);
    Check.says(12, "ALL.");
    Check.due("no lanes", new LaneAtBorder().all(), 0);
    Check.due("no cars", Check.of("l00;l51;").all(), 0);
    LaneAtBorder full = Check.of("l3933333333;l3933333333;l3933333333;l3933333333;l3933333333;");
    Check.due("five full lanes", full.all(), 5 * 36 * 25);
  }
}
