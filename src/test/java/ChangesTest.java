/** Promises 13 to 19: change, changes, paysMost, rests, least, oneLine, beside. */
public final class ChangesTest {
  private static final int FAR = -1000000000;

  public static void main(String[] args) {
    change();
    changeRefused();
    changes();
    paysMost();
    rests();
    least();
    oneLine();
    beside();
    Check.end();
  }

  private static void change() {
    LaneAtBorder x = Check.of("l00012;l10;l5300;");
    String before = Check.everything(x);
    Check.due("the second one gains", x.change(0, 1, 1, 0), 5 - 2);
    Check.due("and brings", x.change(0, 1, 1, 1), 6);
    Check.due("the last one gains", x.change(0, 2, 1, 0), 10 - 4);
    Check.due("and brings", x.change(0, 2, 1, 1), 6);
    Check.due("into the shut one, below its figure", x.change(0, 2, 2, 0), 10 - 21);
    Check.due("and brings", x.change(0, 2, 2, 1), -11);
    Check.due("the second one into the shut one", x.change(0, 1, 2, 0), 5 - 17);
    Check.due("and brings", x.change(0, 1, 2, 1), 32 - 41);
    Check.due("out of the shut one", x.change(2, 1, 0, 0), 10 - 12);
    Check.due("nothing changed", Check.everything(x), before);
    LaneAtBorder later = Check.of("l0030;l002;m3;");
    Check.due("by what is left", later.change(0, 1, 1, 0), 7 - 4);
    Check.due("brings by what is left", later.change(0, 1, 1, 1), 5 + 7 + 2 - (5 + 2 + 4));
  }

  private static void changeRefused() {
    LaneAtBorder x = Check.of("l00012;l0111111111;l5200;l5333333333;");
    String before = Check.everything(x);
    for (int what = 0; what < 2; what++) {
      Check.due("no room", x.change(0, 1, 1, what), FAR - 2);
      Check.due("not open", x.change(0, 1, 2, what), FAR - 3);
      Check.due("no room is told ahead of not open", x.change(0, 1, 3, what), FAR - 2);
    }
    int[][] wrong = {
      {0, 0, 2, 0}, {0, -1, 2, 0}, {0, 3, 2, 0}, {0, 8, 2, 0}, {-1, 1, 2, 0}, {4, 1, 2, 0},
      {0, 1, -1, 0}, {0, 1, 4, 0}, {0, 1, 5, 0}, {0, 1, 0, 0}, {1, 1, 1, 0},
      {0, 1, 1, -1}, {0, 1, 1, 2},
    };
    for (int[] w : wrong) {
      String call = "change" + java.util.Arrays.toString(w);
      Check.due(call, x.change(w[0], w[1], w[2], w[3]), FAR - 1);
      if (w[3] == 0) {
        Check.due("made: " + call, x.changes(w[0], w[1], w[2]), FAR - 1);
      }
    }
    Check.due("made: no room", x.changes(0, 1, 1), FAR - 2);
    Check.due("made: not open", x.changes(0, 1, 2), FAR - 3);
    Check.due("made: no room ahead of not open", x.changes(0, 1, 3), FAR - 2);
    Check.due("nothing changed", Check.everything(x), before);
  }

  private static void changes() {
    LaneAtBorder x = Check.of("l00012;l10;l5300;m1;");
    Check.due("brings", x.changes(0, 1, 1), 1 + 4 + 9 - (1 + 6 + 2));
    Check.due("then", Check.lanes(x), "3 5 1 0 3 9 | 0 0 2 1 6 2 7 1 0 02| 1 0 1 2 2 1 3 1 0 1| 5 3 2 4 9 0 0 1 0 00");
    Check.due("brings less than nothing", x.changes(0, 1, 2), 6 - 20);
    Check.due("then", Check.lanes(x), "3 5 1 0 2 20 | 0 0 1 1 1 1 2 1 0 0| 1 0 1 2 2 1 3 1 0 1| 5 3 3 4 20 1 2 0 0 002");
    Check.due("the shut one is at its figure now", x.comes(2, 0), -3);
    Check.due("out of its middle", x.changes(2, 1, 0), 9 + 20 - (3 + 15));
    Check.due("those behind close up", x.car(2, 1), 2);
  }

  private static void paysMost() {
    LaneAtBorder x = Check.of("l00012;l10;");
    Check.due("paysMost(0)", x.paysMost(0), 21);
    Check.due("paysMost(5)", x.paysMost(5), 21);
    Check.due("the gain must be above", x.paysMost(6), -4);
    Check.due("paysMost(99)", x.paysMost(99), -4);
    Check.due("paysMost(100)", x.paysMost(100), -1);
    Check.due("paysMost(-1)", x.paysMost(-1), -1);
    Check.due("of lanes to go to alike", Check.of("l00011;l00;l00;").paysMost(0), 21);
    Check.due("of places alike", Check.of("l00323;l32;").paysMost(0), 11);
    Check.due("of lanes alike", Check.of("l0000;l0000;l00;").paysMost(0), 12);
    Check.due("a later lane", Check.of("l0000;l00;l00000;").paysMost(0), 221);
    Check.due("none is open with room", Check.of("l0033333333;l50;").paysMost(0), -4);
    Check.due("the first ones stay", Check.of("l003;l10;").paysMost(0), -4);
    Check.due("to the first lane", Check.of("l00;l0000;").paysMost(0), 110);
    Check.due("no lanes", new LaneAtBorder().paysMost(0), -4);
    Check.due("no gain is not above 0", Check.of("l0000;l000;").paysMost(0), -4);
  }

  private static void rests() {
    LaneAtBorder x = Check.of("l00012;l10;");
    String before = Check.everything(x);
    Check.due("rests(0, 0)", x.rests(0, 0), 1);
    Check.due("rests(0, 1)", x.rests(0, 1), 2 + 5 + 4);
    Check.due("rests(6, 0)", x.rests(6, 0), 0);
    Check.due("rests(6, 1)", x.rests(6, 1), 17);
    Check.due("rests(99, 0)", x.rests(99, 0), 0);
    Check.due("rests(-1, 0)", x.rests(-1, 0), -1);
    Check.due("rests(100, 0)", x.rests(100, 0), -1);
    Check.due("rests(0, -1)", x.rests(0, -1), -1);
    Check.due("rests(0, 2)", x.rests(0, 2), -1);
    Check.due("nothing changed", Check.everything(x), before);
    LaneAtBorder back = Check.of("l10;l00012;");
    Check.due("to the first lane", back.rests(0, 0), 1);
    Check.due("to the first lane", back.rests(0, 1), 2 + 5 + 4);
    LaneAtBorder many = Check.of("l0000000000;l00;");
    Check.due("until none gains more", many.rests(0, 0), 4);
    Check.due("all then", many.rests(0, 1), 2 * (2 + 4 + 6 + 8));
    Check.due("no lanes", new LaneAtBorder().rests(0, 0), 0);
    Check.due("no lanes", new LaneAtBorder().rests(0, 1), 0);
  }

  private static void least() {
    Check.due("both go to the quick one", Check.of("l00012;l10;").least(), 2 + 2 + 6);
    Check.due("one lane", Check.of("l00012;").least(), 2 + 5 + 10);
    Check.due("six cars, three lanes", Check.of("l000000000;l00;l00;").least(), 24);
    Check.due("seven cars", Check.of("l0000000000;l00;l00;").least(), -4);
    Check.due("seven cars of several lanes", Check.of("l0000000;l000000;l00;").least(), -4);
    Check.due("four lanes", Check.of("l0000;l00;l00;l00;").least(), -4);
    Check.due("four lanes, no cars to part", Check.of("l00;l00;l00;l00;").least(), -4);
    Check.due("a shut one is none of them", Check.of("l00;l00;l00;l59000;").least(), 5 + 2 + 2);
    Check.due("shut ones alone", Check.of("l5900;").least(), -4);
    Check.due("shut ones alone, no cars to part", Check.of("l590;l591;").least(), 5 + 7);
    Check.due("no lanes", new LaneAtBorder().least(), 0);
    Check.due("first ones as they are", Check.of("l00330;m3;l00;").least(), 5 + 8 + 7);
    LaneAtBorder x = Check.of("l00012;l10;");
    String before = Check.everything(x);
    x.least();
    x.oneLine();
    Check.due("nothing changed", Check.everything(x), before);
  }

  private static void oneLine() {
    Check.due("to whichever is free", Check.of("l00012;l10;").oneLine(), 2 + 2 + 7);
    Check.due("to shut ones too", Check.of("l50;l0000;").oneLine(), 2 + 5);
    Check.due("to the slow one at once", Check.of("l20;l00000;").oneLine(), 2 + 4 + 4);
    Check.due("of several the least", Check.of("l10;l00;l29000;").oneLine(), 4 + 1 + 2);
    Check.due("by what is left", Check.of("l00300;m7;l002;").oneLine(), 1 + 5 + 3 + 5);
    Check.due("no cars", Check.of("l00;").oneLine(), 0);
    Check.due("no lanes", new LaneAtBorder().oneLine(), -4);
  }

  private static void beside() {
    LaneAtBorder x = Check.of("l00000;l10000;l00;");
    String before = Check.everything(x);
    int[] due = {1, 1, 2, 1, 1, 0, 0};
    for (int n = 1; n <= due.length; n++) {
      Check.due("beside(0, 1, " + n + ")", x.beside(0, 1, n), due[n - 1]);
      Check.due("beside(1, 0, " + n + ")", x.beside(1, 0, n), -due[n - 1]);
    }
    Check.due("an empty lane beside", x.beside(2, 0, 60), 3);
    Check.due("beside an empty lane", x.beside(0, 2, 60), -3);
    int[][] wrong = {{0, 0, 1}, {-1, 0, 1}, {0, -1, 1}, {3, 0, 1}, {0, 3, 1}, {0, 1, 0}, {0, 1, 61}};
    for (int[] w : wrong) {
      Check.due("beside" + java.util.Arrays.toString(w), x.beside(w[0], w[1], w[2]), FAR - 1);
    }
    Check.due("nothing changed", Check.everything(x), before);
  }
}
