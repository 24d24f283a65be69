import java.util.Arrays;
import java.util.function.Supplier;

/** Promises 13 to 19: change, changes, paysMost, rests, least, oneLine, beside. */
final class ChangeCases {
  private static final int FAR = -1000000000;
  /** 29 changes: the most that searches found, so that the bound of 40 itself has no test. */
  private static final String LONG_UNREST =
      "l15;l36;l65;l393300031;m24;c11;c13;c10;c10;c10;c13;c13;c13;l36030033;";

  private ChangeCases() {}

  static void run() {
    gain();
    brings();
    changeRefused();
    changesRefused();
    changes();
    paysMost();
    paysMostRefused();
    rests();
    restsRefused();
    least();
    leastOfTooMany();
    oneLine();
    beside();
    besideRefused();
  }

  private static void gain() {
    Supplier<LaneAtBorder> stage = () -> Check.of("l00012;l10;l5300;");
    Check.says(
        13,
        "CHANGE of the CAR at place i (1 .. : not the first) of a LANE to the end of another one that has room"
            + " and is OPEN: GAIN: its TIME less what it would be;");
    Check.unchanged(stage, "of the second", x -> x.change(0, 1, 1, 0), 5 - 2);
    Check.unchanged(stage, "of the last", x -> x.change(0, 2, 1, 0), 10 - 4);
    Check.unchanged(stage, "into a shut one below its figure", x -> x.change(0, 2, 2, 0), 10 - 21);
    Check.unchanged(stage, "out of a shut one", x -> x.change(2, 1, 0, 0), 10 - 12);
    Check.due("by what is left", Check.of("l0030;l002;m3;").change(0, 1, 1, 0), 7 - 4);
    Check.due("of the eighth", Check.of("l0000000000;l60;").change(0, 7, 1, 0), 16 - 1);
    Check.due("behind seven", Check.of("l000000000;l0033;").change(1, 1, 0, 0), 16 - 22);
    Check.due("no gain", Check.of("l0000;l000;").change(0, 1, 1, 0), 0);
    Check.says(13, "CHANGE: GAIN (what 0), BRINGS (1).");
    Check.due("gain", Check.of("l0000000;l00;").change(0, 1, 1, 0), 4 - 2);
    Check.due("brings", Check.of("l0000000;l00;").change(0, 1, 1, 1), 4 - 2 + 3 * 2);
  }

  private static void brings() {
    Supplier<LaneAtBorder> stage = () -> Check.of("l00012;l10;l5300;");
    Check.says(13, "BRINGS: ALL less what it would be (both may be below 0).");
    Check.unchanged(stage, "of the second", x -> x.change(0, 1, 1, 1), 17 - (2 + 7 + 2));
    Check.unchanged(stage, "of the last", x -> x.change(0, 2, 1, 1), 10 - 4);
    Check.unchanged(stage, "into a shut one", x -> x.change(0, 2, 2, 1), 10 - 21);
    Check.unchanged(stage, "of the second into a shut one", x -> x.change(0, 1, 2, 1), 5 + 10 - (7 + 17));
    Check.due("by what is left", Check.of("l0030;l002;m3;").change(0, 1, 1, 1), 7 - 4);
    Check.due("nothing", Check.of("l0000;l000;").change(0, 1, 1, 1), 0);
  }

  /** One with room; full; shut; shut and full; with room for one. */
  private static LaneAtBorder crowded() {
    LaneAtBorder x = Check.of("l00012;l0111111111;l5200;l5333333333;l010000000;");
    x.image();
    return x;
  }

  private static final int[][] NO_CHANGES = {
    {0, 0, 4}, {0, -1, 4}, {0, 3, 4}, {0, 8, 4}, {0, Integer.MIN_VALUE, 4}, {0, Integer.MAX_VALUE, 4},
    {-1, 1, 4}, {5, 1, 4}, {Integer.MIN_VALUE, 1, 4}, {Integer.MAX_VALUE, 1, 4},
    {0, 1, -1}, {0, 1, 5}, {0, 1, Integer.MIN_VALUE}, {0, 1, Integer.MAX_VALUE},
    {0, 1, 0}, {1, 1, 1}, {2, 1, 2}, {1, 8, 0},
    {0, 0, 1}, {0, 0, 2}, {0, 3, 3}, {-1, 1, 1}, {5, 1, 2}, {3, 1, 3},
  };

  private static void changeRefused() {
    Check.says(13, "-1000000001; -1000000002 no room; -1000000003 it is not OPEN.");
    for (int what = 0; what < 2; what++) {
      int told = what;
      for (int[] w : NO_CHANGES) {
        String call = "change" + Arrays.toString(w);
        Check.unchanged(ChangeCases::crowded, call, x -> x.change(w[0], w[1], w[2], told), FAR - 1);
      }
      Check.unchanged(ChangeCases::crowded, "no room", x -> x.change(0, 1, 1, told), FAR - 2);
      Check.unchanged(ChangeCases::crowded, "not open", x -> x.change(0, 1, 2, told), FAR - 3);
      Check.unchanged(ChangeCases::crowded, "no room, not open", x -> x.change(0, 1, 3, told), FAR - 2);
    }
    for (int wrong : new int[] {Integer.MIN_VALUE, -1, 2, Integer.MAX_VALUE}) {
      for (int other = 0; other < 5; other++) {
        int to = other;
        Check.unchanged(ChangeCases::crowded, "what " + wrong, x -> x.change(0, 1, to, wrong), FAR - 1);
      }
    }
    Check.due("room for one", crowded().change(0, 1, 4, 0), 5 - (7 * 2 + 3));
    Check.due("open below its figure", Check.of("l00012;l5300;").change(0, 1, 1, 0), 5 - (10 + 7));
    Check.due("a lane without cars", Check.of("l00;l00;").change(0, 1, 1, 0), FAR - 1);
    Check.due("no lanes", new LaneAtBorder().change(0, 1, 1, 0), FAR - 1);
    Check.says(
        13, "where numbers that may be below 0 are answered (told at the call), 1000000000 less.");
    Check.due("no such lane", crowded().change(5, 1, 0, 0), -1000000001);
    Check.due("no room", crowded().change(0, 1, 1, 0), -1000000002);
    Check.due("not open", crowded().change(0, 1, 2, 0), -1000000003);
  }

  private static void changesRefused() {
    Check.says(14, "Refused likewise.");
    for (int[] w : NO_CHANGES) {
      String call = "changes" + Arrays.toString(w);
      Check.unchanged(ChangeCases::crowded, call, x -> x.changes(w[0], w[1], w[2]), FAR - 1);
    }
    Check.unchanged(ChangeCases::crowded, "no room", x -> x.changes(0, 1, 1), FAR - 2);
    Check.unchanged(ChangeCases::crowded, "not open", x -> x.changes(0, 1, 2), FAR - 3);
    Check.unchanged(ChangeCases::crowded, "no room, not open", x -> x.changes(0, 1, 3), FAR - 2);
    LaneAtBorder x = crowded();
    Check.due("the eighth", x.changes(0, 1, 4), 17 - (2 + 7 + 17));
    Check.due("the ninth", x.changes(0, 1, 4), FAR - 2);
    LaneAtBorder shut = Check.of("l00000;l510;m60;");
    Check.read(shut, "l00000;");
    Check.due("the first into the shut one", shut.changes(2, 1, 1), 4 + 6 - (4 + 5));
    Check.due("the second", shut.changes(2, 1, 1), FAR - 3);
  }

  private static void changes() {
    LaneAtBorder x = Check.of("l00012;l10;l5300;m1;");
    Check.says(14, "The CHANGE is made: what it BRINGS.");
    Check.due("brings", x.changes(0, 1, 1), 1 + 4 + 9 - (1 + 6 + 2));
    Check.due("then", Check.lanes(x), "3 5 1 0 3 9 | 0 0 2 1 6 2 7 1 0 02| 1 0 1 2 2 1 3 1 0 1| 5 3 2 4 9 0 0 1 0 00");
    Check.due("brings less than nothing", x.changes(0, 1, 2), 6 - 20);
    Check.due("then", Check.lanes(x), "3 5 1 0 2 20 | 0 0 1 1 1 1 2 1 0 0| 1 0 1 2 2 1 3 1 0 1| 5 3 3 4 20 1 2 0 0 002");
    Check.due("out of its middle", x.changes(2, 1, 0), 9 + 20 - (3 + 15));
    Check.due("those behind close up", x.car(2, 1), 2);
    LaneAtBorder same = Check.of("l0000;l000;");
    Check.due("brings nothing", same.changes(0, 1, 1), 0);
    Check.due("is made", same.lane(1, 2), 2);
    LaneAtBorder full = Check.of("l0000000003;l00;");
    Check.due("the eighth goes", full.changes(0, 7, 1), 22 - 8);
    Check.due("it has as many left at once", full.lane(1, 3), 8);
    Check.due("its place is free", full.car(0, 7), -1);
  }

  private static void paysMost() {
    Check.says(
        15,
        "PAYS MOST: the CHANGE with the greatest GAIN above told c (0 .. 99): as 100 times the LANE,"
            + " 10 times the place, and the other LANE, of several the least number; -4.");
    Check.due("the gain is 6, above 0", Check.of("l00012;l10;").paysMost(0), 21);
    Check.due("the gain is 6, above 5", Check.of("l00012;l10;").paysMost(5), 21);
    Check.due("the gain is 6, not above 6", Check.of("l00012;l10;").paysMost(6), -4);
    Check.due("the gain is 99, above 98", Check.of("l203333330;l60;").paysMost(98), 61);
    Check.due("the gain is 99, not above 99", Check.of("l203333330;l60;").paysMost(99), -4);
    Check.due("the gain is 100, above 99", Check.of("l593333320;l60;").paysMost(99), 61);
    Check.due("no gain is not above 0", Check.of("l0000;l000;").paysMost(0), -4);
    Check.due("of lanes to go to alike", Check.of("l00011;l00;l00;").paysMost(0), 21);
    Check.due("of places alike", Check.of("l00323;l32;").paysMost(0), 11);
    Check.due("of lanes alike", Check.of("l0000;l0000;l00;").paysMost(0), 12);
    Check.due("a later lane gains more", Check.of("l0000;l00;l00000;").paysMost(0), 221);
    Check.due("to the first lane", Check.of("l00;l0000;").paysMost(0), 110);
    Check.due("the greatest number", Check.of("l50;l50;l50;l60;l0000000000;").paysMost(0), 473);
    Check.due("shut ones and full ones are passed by", Check.of("l0033333333;l50;l0000000000;").paysMost(0), -4);
    Check.due("room for one", Check.of("l0033333333;l50;l000000000;").paysMost(0), 72);
    Check.due("shut ones below their figure", Check.of("l0033333333;l51;").paysMost(0), 71);
    Check.due("the first ones stay", Check.of("l003;l10;").paysMost(0), -4);
    Check.says(15, "PAYS MOST; -4.");
    Check.due("no lanes", new LaneAtBorder().paysMost(0), -4);
    Check.due("one lane", Check.of("l0033333333;").paysMost(0), -4);
    Check.due("no cars", Check.of("l00;l00;").paysMost(0), -4);
  }

  private static void paysMostRefused() {
    Check.says(15, "-1.");
    for (int wrong : new int[] {Integer.MIN_VALUE, -1, 100, Integer.MAX_VALUE}) {
      Check.unchanged(ChangeCases::crowded, "paysMost(" + wrong + ")", x -> x.paysMost(wrong), -1);
      Check.due("without lanes", new LaneAtBorder().paysMost(wrong), -1);
    }
  }

  private static void rests() {
    Supplier<LaneAtBorder> stage = () -> Check.of("l00012;l10;");
    Check.says(
        16,
        "RESTS: in mind, as long as there is a CHANGE that PAYS MOST (c as told) it is made,"
            + " 40 times at most: how many; ALL then.");
    Check.unchanged(stage, "rests(0, 0)", x -> x.rests(0, 0), 1);
    Check.unchanged(stage, "rests(0, 1)", x -> x.rests(0, 1), 2 + 5 + 4);
    Check.due("until none gains more", Check.of("l0000000000;l00;").rests(0, 0), 4);
    Check.due("all then", Check.of("l0000000000;l00;").rests(0, 1), 2 * (2 + 4 + 6 + 8));
    Check.due("to the first lane", Check.of("l10;l00012;").rests(0, 1), 2 + 5 + 4);
    Check.due("many times", Check.of(LONG_UNREST).rests(0, 0), 29);
    LaneAtBorder made = Check.of(LONG_UNREST);
    for (int next = made.paysMost(0); next >= 0; next = made.paysMost(0)) {
      made.changes(next / 100, next / 10 % 10, next % 10);
    }
    Check.unchanged(() -> Check.of(LONG_UNREST), "all then", x -> x.rests(0, 1), made.all());
    Check.says(16, "RESTS: how many (what 0), ALL (1).");
    Check.due("a gain of 6 is above 5", stage.get().rests(5, 0), 1);
    Check.due("a gain of 6 is not above 6", stage.get().rests(6, 0), 0);
    Check.due("all as it is", stage.get().rests(6, 1), 17);
    Check.due("rests(99, 0)", stage.get().rests(99, 0), 0);
    Check.due("a gain of 100 is above 99", Check.of("l593333320;l60;").rests(99, 0), 1);
    Check.due("no lanes", new LaneAtBorder().rests(0, 0), 0);
    Check.due("no lanes", new LaneAtBorder().rests(0, 1), 0);
  }

  private static void restsRefused() {
    Check.says(16, "-1.");
    for (int wrong : new int[] {Integer.MIN_VALUE, -1, 100, Integer.MAX_VALUE}) {
      Check.unchanged(ChangeCases::crowded, "rests(" + wrong + ", 0)", x -> x.rests(wrong, 0), -1);
      Check.unchanged(ChangeCases::crowded, "rests(" + wrong + ", 1)", x -> x.rests(wrong, 1), -1);
    }
    for (int wrong : new int[] {Integer.MIN_VALUE, -1, 2, Integer.MAX_VALUE}) {
      Check.unchanged(ChangeCases::crowded, "rests(0, " + wrong + ")", x -> x.rests(0, wrong), -1);
    }
  }

  private static void least() {
    Check.says(
        17,
        "LEAST: of all ways to part CARS that are not the first of their LANE among LANES whose KIND is not 5"
            + " (in order of LANES and places; each goes to the end behind the first one;"
            + " 6 such CARS at most, 3 such LANES at most), the least ALL;");
    Supplier<LaneAtBorder> stage = () -> Check.of("l00012;l10;");
    Check.unchanged(stage, "both go to the quick one", LaneAtBorder::least, 2 + 2 + 6);
    Check.due("one lane", Check.of("l00012;").least(), 2 + 5 + 10);
    Check.due("in order, not the shortest first", Check.of("l00030;").least(), 2 + 10 + 12);
    Check.due("in order of lanes", Check.of("l5903;l0000;").least(), 5 + 2 + 10 + 12);
    Check.due("first ones as they are", Check.of("l00330;m3;l00;").least(), 5 + 8 + 7);
    Check.due("first ones do not change", Check.of("l203;l60;").least(), 16);
    Check.due("six cars, three lanes", Check.of("l000000000;l00;l00;").least(), 24);
    Check.due("six cars of two lanes", Check.of("l000000;l000000;l00;").least(), 2 * (2 + 4 + 6) + 2 + 4);
    Check.due("six cars in one lane", Check.of("l000000000;").least(), 2 * 28);
    Check.due("a shut one's cars go elsewhere", Check.of("l00;l00;l00;l59000;").least(), 5 + 2 + 2);
    Check.due("a lane that is shut is none of three", Check.of("l00;l00;l00;l50;l50;").least(), 0);
    Check.due("no cars to part", Check.of("l003;l102;").least(), 8 + 4);
    Check.says(17, "-4 too many of these, or no such LANE for them.");
    Check.due("shut ones alone", Check.of("l5900;").least(), -4);
    Check.due("shut ones alone, no cars to part", Check.of("l590;l591;").least(), 5 + 7);
    Check.due("no lanes", new LaneAtBorder().least(), 0);
  }

  private static void leastOfTooMany() {
    Check.says(17, "LEAST; -4.");
    Check.unchanged(() -> Check.of("l0000000000;l00;l00;"), "seven cars", LaneAtBorder::least, -4);
    Check.due("seven cars in one lane", Check.of("l0000000000;").least(), -4);
    Check.due("seven cars of several lanes", Check.of("l0000000;l000000;l00;").least(), -4);
    Check.due("seven cars, some in a shut lane", Check.of("l0000000;l59000000;").least(), -4);
    Check.due("four lanes", Check.of("l0000;l00;l00;l00;").least(), -4);
    Check.due("four lanes, no cars to part", Check.of("l00;l00;l00;l00;").least(), -4);
    Check.due("five full lanes", Check.of("l0000000000;l0000000000;l0000000000;l0000000000;l0000000000;").least(), -4);
  }

  private static void oneLine() {
    Check.says(
        18,
        "ONE LINE: all CARS that are not the first of their LANE stand in one line, in order of LANES and places;"
            + " as soon as a LANE has none at its head (at once, if it has no CARS), the line's first goes there"
            + " (of several at once to the least LANE): ALL by that (first ones as they are).");
    Check.unchanged(() -> Check.of("l00012;l10;"), "to whichever is free", LaneAtBorder::oneLine, 2 + 2 + 7);
    Check.due("to shut ones too", Check.of("l50;l0000;").oneLine(), 2 + 5);
    Check.due("to the slow one at once", Check.of("l20;l00000;").oneLine(), 2 + 4 + 4);
    Check.due("of several the least", Check.of("l10;l00;l29000;").oneLine(), 4 + 1 + 2);
    Check.due("of several later the least", Check.of("l200;m2;l0000;").oneLine(), 2 + 2 + 6);
    Check.due("of several later the least", Check.of("l0000;l10;c11;").oneLine(), 2 + 2 + 4);
    Check.due("in order of lanes and places", Check.of("l00023;l00000;").oneLine(), 2 + 2 + 7 + 10 + 9 + 11);
    Check.due("by what is left", Check.of("l00300;m7;l002;").oneLine(), 1 + 5 + 3 + 5);
    Check.due("one lane", Check.of("l0001;").oneLine(), 2 + 5);
    LaneAtBorder full = Check.of("l0000000000;l0000000000;l0000000000;l0000000000;l0000000000;");
    Check.due("five full lanes", full.oneLine(), 5 * 2 * 36);
    Check.due("no cars", Check.of("l00;").oneLine(), 0);
    Check.says(18, "ONE LINE; -4: no LANES.");
    Check.unchanged(LaneAtBorder::new, "no lanes", LaneAtBorder::oneLine, -4);
  }

  private static void beside() {
    Supplier<LaneAtBorder> stage = () -> Check.of("l00000;l10000;l00;");
    Check.says(
        19,
        "BESIDE: in how many of n MINUTES (1 .. 60) another told LANE has a CAR go over and a LANE has none,"
            + " less those the other way round; may be below 0.");
    int[] due = {1, 1, 2, 1, 1, 0, 0};
    for (int n = 1; n <= due.length; n++) {
      int told = n;
      Check.unchanged(stage, "beside(0, 1, " + n + ")", x -> x.beside(0, 1, told), due[n - 1]);
      Check.unchanged(stage, "beside(1, 0, " + n + ")", x -> x.beside(1, 0, told), -due[n - 1]);
    }
    Check.due("an empty lane beside", stage.get().beside(2, 0, 60), 3);
    Check.due("beside an empty lane", stage.get().beside(0, 2, 60), -3);
    Check.due("both in the same minutes", Check.of("l00000;l00000;").beside(0, 1, 60), 0);
    Check.says(19, "BESIDE.");
    LaneAtBorder at60 = Check.of("l00;l20333110;");
    Check.due("ahead of minute 60", at60.beside(0, 1, 59), 4);
    Check.due("at minute 60", at60.beside(0, 1, 60), 5);
  }

  private static void besideRefused() {
    Supplier<LaneAtBorder> stage = () -> Check.of("l00000;l10000;l00;");
    Check.says(19, "-1000000001 (one and the same, too).");
    int[][] wrong = {
      {0, 0, 1}, {2, 2, 60}, {-1, 0, 1}, {0, -1, 1}, {3, 0, 1}, {0, 3, 1}, {5, 0, 1}, {0, 5, 1}, {3, 3, 1}, {-1, -1, 1},
      {Integer.MIN_VALUE, 0, 1}, {0, Integer.MAX_VALUE, 1},
      {0, 1, 0}, {0, 1, -1}, {0, 1, 61}, {0, 1, Integer.MIN_VALUE}, {0, 1, Integer.MAX_VALUE},
    };
    for (int[] w : wrong) {
      Check.unchanged(stage, "beside" + Arrays.toString(w), x -> x.beside(w[0], w[1], w[2]), FAR - 1);
    }
  }
}
