/** Promises 6 and 7: comes, minutes. */
public final class MinutesTest {
  public static void main(String[] args) {
    comes();
    comesRefused();
    minutes();
    minutesRefused();
    Check.end();
  }

  private static void comes() {
    LaneAtBorder x = Check.of("l00;l39;l73;");
    Check.due("into an empty lane", x.comes(0, 3), 8);
    Check.due("has its minutes left at once", x.lane(0, 3), 8);
    Check.due("behind another", x.comes(0, 1), 11);
    Check.due("the first one's minutes stay", x.lane(0, 3), 8);
    x.minutes(2);
    Check.due("behind what is left and taken", x.comes(0, 0), 11);
    Check.due("as the lane's kind tells", x.comes(1, 3), 25);
    Check.due("as the lane's figure tells", x.comes(2, 2), 8);
    Check.due("all", Check.lanes(x), "3 5 2 0 3 25 | 0 0 3 6 11 3 13 1 0 310| 3 9 1 25 25 0 0 1 0 3| 7 3 1 8 8 1 5 1 0 2");
  }

  private static void comesRefused() {
    LaneAtBorder x = Check.of("l0011111111;l51;l50;l5911111111;");
    Check.due("shut below its figure", x.comes(1, 0), 5);
    String before = Check.everything(x);
    Check.due("no room", x.comes(0, 0), -2);
    Check.due("shut at its figure", x.comes(1, 0), -3);
    Check.due("shut of figure 0", x.comes(2, 0), -3);
    Check.due("shut of figure 9 has no room", x.comes(3, 0), -2);
    Check.due("comes(4, 0)", x.comes(4, 0), -1);
    Check.due("comes(-1, 0)", x.comes(-1, 0), -1);
    Check.due("comes(2, 4)", x.comes(2, 4), -1);
    Check.due("comes(0, -1)", x.comes(0, -1), -1);
    Check.due("nothing changed", Check.everything(x), before);
    LaneAtBorder full = Check.of("l5311111111;");
    Check.due("not open is told ahead of no room", full.comes(0, 0), -3);
  }

  private static void minutes() {
    LaneAtBorder x = Check.of("l00012;l10000;l73;");
    Check.due("minutes(1)", x.minutes(1), 1);
    Check.due("then", Check.lanes(x), "3 5 1 1 3 9 | 0 0 3 1 9 3 10 1 0 012| 1 0 2 1 2 2 4 1 1 00| 7 3 0 0 0 0 0 1 0 ");
    Check.due("minutes(1) again", x.minutes(1), 2);
    Check.due("then", Check.lanes(x), "3 3 2 3 3 8 | 0 0 2 3 8 2 8 1 1 12| 1 0 1 1 1 1 2 1 2 0| 7 3 0 0 0 0 0 1 0 ");
    Check.due("minutes(7)", x.minutes(7), 2);
    Check.due("then", Check.lanes(x), "3 1 9 5 3 1 | 0 0 1 1 1 1 5 1 2 2| 1 0 0 0 0 0 0 1 3 | 7 3 0 0 0 0 0 1 0 ");
    Check.due("minutes(60)", x.minutes(60), 1);
    Check.due("then", Check.lanes(x), "3 0 69 6 3 0 | 0 0 0 0 0 0 0 1 3 | 1 0 0 0 0 0 0 1 3 | 7 3 0 0 0 0 0 1 0 ");
    Check.due("into a lane that became empty", x.comes(1, 3), 7);
    Check.due("without lanes", new LaneAtBorder().minutes(60), 0);
  }

  private static void minutesRefused() {
    LaneAtBorder x = Check.of("l00012;");
    String before = Check.everything(x);
    int[] wrong = {0, -1, 61, Integer.MIN_VALUE, Integer.MAX_VALUE};
    for (int n : wrong) {
      Check.due("minutes(" + n + ")", x.minutes(n), -1);
    }
    Check.due("nothing changed", Check.everything(x), before);
  }
}
