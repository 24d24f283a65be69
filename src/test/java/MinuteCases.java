import java.util.function.Supplier;

/** Promises 6 and 7: comes, minutes. */
final class MinuteCases {
  private MinuteCases() {}

  static void run() {
    comes();
    comesRefused();
    comesWithoutCars();
    minutes();
    minutesRefused();
    aMinute();
    calls();
  }

  private static void comes() {
    LaneAtBorder x = Check.of("l00;l39;l73;");
    Check.says(6, "A CAR of a SORT comes into a LANE: its TIME.");
    Check.due("into an empty lane", x.comes(0, 3), 8);
    Check.due("behind another", x.comes(0, 1), 11);
    Check.due("the first one's minutes stay", x.lane(0, 3), 8);
    x.minutes(2);
    Check.due("behind what is left and taken", x.comes(0, 0), 6 + 3 + 2);
    Check.due("as the lane's kind tells", x.comes(1, 3), 25);
    Check.due("as the lane's figure tells", x.comes(2, 2), 8);
    Check.due("all", Check.lanes(x), "3 5 2 0 3 25 | 0 0 3 6 11 3 13 1 0 310| 3 9 1 25 25 0 0 1 0 3| 7 3 1 8 8 1 5 1 0 2");
    Check.says(6, "A CAR of a SORT that comes now is over in a LANE behind WAIT and what it TAKES there: its TIME.");
    LaneAtBorder many = Check.of("l39;");
    for (int n = 1; n <= 8; n++) {
      Check.due("car " + n, many.comes(0, 3), 25 * n);
    }
    LaneAtBorder last = Check.of("l0030;m7;");
    Check.due("behind a first one with a minute left", last.comes(0, 2), 1 + 2 + 5);
  }

  private static void comesRefused() {
    // Full; shut at its figure; of figure 0; full of figure 9, 8, 3; with room for one.
    String border = "l0011111111;l5100;l50;l5911111111;l5333333333;";
    Supplier<LaneAtBorder> stage =
        () -> {
          LaneAtBorder x = Check.of(border);
          x.image();
          x.minutes(1);
          return x;
        };
    Check.says(6, "-1, -3 it is not OPEN, -2.");
    for (int wrong : new int[] {Integer.MIN_VALUE, -1, 5, Integer.MAX_VALUE}) {
      Check.unchanged(stage, "comes(" + wrong + ", 0)", x -> x.comes(wrong, 0), -1);
    }
    Check.due("the lane behind the last", Check.of("l00;").comes(1, 0), -1);
    for (int wrong : new int[] {Integer.MIN_VALUE, -1, 4, Integer.MAX_VALUE}) {
      Check.unchanged(stage, "no sort, ahead of no room", x -> x.comes(0, wrong), -1);
      Check.unchanged(stage, "no sort, ahead of not open", x -> x.comes(1, wrong), -1);
    }
    Check.unchanged(stage, "no room", x -> x.comes(0, 0), -2);
    Check.unchanged(stage, "not open", x -> x.comes(1, 0), -3);
    Check.unchanged(stage, "figure 0", x -> x.comes(2, 3), -3);
    Check.unchanged(stage, "figure 9, full", x -> x.comes(3, 0), -2);
    Check.unchanged(stage, "not open, ahead of no room", x -> x.comes(4, 0), -3);
    Check.due("figure 8, full", Check.of("l5800000000;").comes(0, 0), -3);
    LaneAtBorder room = Check.of("l000000000;l53;");
    Check.due("the eighth", room.comes(0, 0), 2 * 8);
    Check.due("the ninth", room.comes(0, 0), -2);
    for (int n = 1; n <= 3; n++) {
      Check.due("below its figure", room.comes(1, 0), 5 * n);
    }
    Check.due("at its figure", room.comes(1, 0), -3);
  }

  private static void comesWithoutCars() {
    Check.says(6, "A CAR that comes into a LANE without CARS has as many LEFT at once.");
    for (int sort = 0; sort < 4; sort++) {
      LaneAtBorder x = Check.of("l39;l100;m1;");
      x.comes(0, sort);
      Check.due("left in a new lane", x.lane(0, 3), x.takes(0, sort));
      x.comes(1, sort);
      Check.due("left in a lane that became empty", x.lane(1, 3), x.takes(1, sort));
      x.comes(1, 3);
      Check.due("another behind does not matter", x.lane(1, 3), x.takes(1, sort));
    }
  }

  private static void minutes() {
    LaneAtBorder x = Check.of("l00012;l10000;l73;");
    Check.says(7, "n MINUTES (1 .. 60) go by: how many went over.");
    Check.due("minutes(1)", x.minutes(1), 1);
    Check.due("then", Check.lanes(x), "3 5 1 1 3 9 | 0 0 3 1 9 3 10 1 0 012| 1 0 2 1 2 2 4 1 1 00| 7 3 0 0 0 0 0 1 0 ");
    Check.due("minutes(1) again", x.minutes(1), 2);
    Check.due("then", Check.lanes(x), "3 3 2 3 3 8 | 0 0 2 3 8 2 8 1 1 12| 1 0 1 1 1 1 2 1 2 0| 7 3 0 0 0 0 0 1 0 ");
    Check.due("minutes(7)", x.minutes(7), 2);
    Check.due("then", Check.lanes(x), "3 1 9 5 3 1 | 0 0 1 1 1 1 5 1 2 2| 1 0 0 0 0 0 0 1 3 | 7 3 0 0 0 0 0 1 0 ");
    Check.due("minutes(60)", x.minutes(60), 1);
    Check.due("then", Check.lanes(x), "3 0 69 6 3 0 | 0 0 0 0 0 0 0 1 3 | 1 0 0 0 0 0 0 1 3 | 7 3 0 0 0 0 0 1 0 ");
    Check.due("none any more", x.minutes(60), 0);
    Check.due("the clock goes on", x.count(2), 129);
    LaneAtBorder none = new LaneAtBorder();
    Check.due("without lanes", none.minutes(60), 0);
    Check.due("its clock", none.count(2), 60);
    LaneAtBorder full = Check.of("l1000000000;l1000000000;l1000000000;l1000000000;l1000000000;");
    Check.due("all lanes at once", full.minutes(1), 5);
    Check.due("all that stood", full.minutes(60), 35);
    Check.due("passed", full.count(3), 40);
  }

  private static void minutesRefused() {
    Supplier<LaneAtBorder> stage =
        () -> {
          LaneAtBorder x = Check.of("l00012;");
          x.image();
          x.minutes(3);
          return x;
        };
    Check.says(7, "-1.");
    for (int wrong : new int[] {Integer.MIN_VALUE, -1, 0, 61, Integer.MAX_VALUE}) {
      Check.unchanged(stage, "minutes(" + wrong + ")", x -> x.minutes(wrong), -1);
    }
  }

  private static void aMinute() {
    LaneAtBorder x = Check.of("l0031;l00;");
    Check.says(7, "A MINUTE: in each LANE with CARS the first has one LEFT less;");
    for (int left = 7; left >= 1; left--) {
      Check.due("went over", x.minutes(1), 0);
      Check.due("left", x.lane(0, 3), left);
      Check.due("left without cars", x.lane(1, 3), 0);
    }
    Check.says(7, "with none LEFT it is over, and the next one is first and has as many LEFT as it TAKES there.");
    Check.due("went over", x.minutes(1), 1);
    Check.due("the next one's left", x.lane(0, 3), 3);
    Check.due("the next one is first", x.car(0, 0), 1);
    Check.due("went over there", x.lane(0, 8), 1);
    Check.due("the last one", x.minutes(3), 1);
    Check.due("left without cars", x.lane(0, 3), 0);
    Check.due("cars", x.lane(0, 2), 0);
    LaneAtBorder quick = Check.of("l10003;");
    for (int n = 1; n <= 3; n++) {
      Check.due("of one minute each", quick.minutes(1), n < 3 ? 1 : 0);
    }
    Check.due("left of the last", quick.lane(0, 3), 7 - 1);
  }

  private static void calls() {
    LaneAtBorder x = new LaneAtBorder();
    Check.says(7, "An object is used for at most 512 calls after it has been made;");
    Check.text(x, 0, "m99;".repeat(25));
    for (int call = 102; call <= 511; call++) {
      Check.due("call " + call, x.border(0), 25);
    }
    Check.due("call 512", x.count(2), 410 * 25 * 99);
  }
}
