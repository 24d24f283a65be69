/** What holds over all promises: the calls for which an object is used, and objects side by side. */
final class UseCases {
  private static final int CALLS = 512;
  private static final String SENTENCE =
      "An object is used for at most 512 calls after it has been made; what later calls answer is free.";

  private UseCases() {}

  static void run() {
    hours();
    oneTextAgain();
    refusedToTheEnd();
    laterCalls();
    twoObjects();
  }

  private static void hours() {
    Check.says(7, SENTENCE);
    LaneAtBorder x = new LaneAtBorder();
    for (int call = 1; call < CALLS; call++) {
      Check.due("minutes(60) as call " + call, x.minutes(60), 0);
    }
    Check.due("count(2) as the last call", x.count(2), 60 * (CALLS - 1));
  }

  /** One text read over and over, in which cars come into all lanes and go over. */
  private static void oneTextAgain() {
    Check.says(2, SENTENCE);
    LaneAtBorder x = new LaneAtBorder();
    String text = "l60;".repeat(5);
    Check.read(x, text);
    String again = "c00;c10;c20;c30;c40;m1;".repeat(4);
    Check.text(x, 0, again);
    int made = 1 + text.length() + 1 + 1 + again.length();
    int times = 0;
    for (; made < CALLS - 3; made++) {
      Check.due("border as call " + (made + 1), x.border(0), 24);
      times++;
    }
    Check.due("count(2)", x.count(2), 4 * times);
    Check.due("count(3)", x.count(3), 20 * times);
    Check.due("lane(4, 8) as the last call", x.lane(4, 8), 4 * times);
  }

  private static void refusedToTheEnd() {
    Check.says(6, SENTENCE);
    LaneAtBorder x = Check.of("l5100;");
    int made = 1 + 6 + 1 + 1;
    for (; made < CALLS - 1; made++) {
      Check.due("comes(0, 0) as call " + (made + 1), x.comes(0, 0), -3);
    }
    Check.due("all() as the last call", x.all(), 5 + 10);
  }

  /** What they answer is free, but no call may throw by itself, ever. */
  private static void laterCalls() {
    LaneAtBorder x = Check.of("l0012;l3933333333;", "0123");
    for (int call = 0; call < 20 * CALLS; call++) {
      x.comes(call % 6, call % 5);
      x.changes(call % 2, 1, 1 - call % 2);
      x.rests(0, 1);
      x.comers(1, call % 10, call % 3, 1);
      x.seeded(30, call, 1);
      x.minutes(1 + call % 60);
    }
    x.image();
    x.restore();
  }

  private static void twoObjects() {
    Check.says(1, "No LANES.");
    LaneAtBorder one = Check.of("l0012;m1;");
    one.image();
    LaneAtBorder two = new LaneAtBorder();
    Check.due("lanes of a new object beside another one", two.count(0), 0);
    Check.due("its image", two.restore(), -3);
    Check.text(two, 3, "l70333;m9;");
    two.border(3);
    two.image();
    Check.due("the other one", Check.lanes(one), "1 2 1 0 1 7 | 0 0 2 2 7 2 8 1 0 12");
    Check.due("its shelf 3", one.toll(3), -11);
    Check.due("its image", one.restore(), 1);
  }
}
