/** Promises 1 to 5: a new object, border, lane, car, takes. */
public final class BordersTest {
  private static final int[][] TAKES = {
    {2, 3, 5, 8}, {1, 2, 4, 7}, {4, 6, 10, 16}, {4, 6, 10, 19},
    {2, 3, 5, 8}, {5, 7, 11, 17}, {1, 1, 2, 4}, {5, 6, 8, 11},
  };
  /** By kinds of figure 3, with 0 .. 8 cars. */
  private static final int[][] SEEN = {
    {0, 1, 2, 3, 4, 5, 6, 7, 8}, {0, 1, 2, 3, 4, 5, 6, 7, 8}, {0, 0, 1, 2, 3, 4, 5, 6, 7},
    {0, 0, 1, 2, 3, 4, 5, 6, 7}, {0, 1, 2, 3, 3, 3, 3, 3, 3}, {0, 0, 0, 1, 1, 2, 2, 3, 3},
    {0, 1, 2, 3, 4, 5, 6, 7, 8}, {0, 1, 1, 2, 2, 3, 3, 4, 4},
  };

  public static void main(String[] args) {
    newObject();
    statements();
    faultsOfKind1();
    faultsOfKind2();
    faultsChangeNothing();
    refusedTexts();
    lanesByKinds();
    lanesAsMinutesGoBy();
    cars();
    takes();
    Check.end();
  }

  private static void newObject() {
    LaneAtBorder x = new LaneAtBorder();
    Check.due("a new object", Check.lanes(x), "0 0 0 0 0 0 ");
    Check.due("its lane 0", x.lane(0, 0), -1);
    Check.due("its image", x.restore(), -3);
    for (int d = 0; d < 8; d++) {
      Check.due("its shelf " + d, x.toll(d), -11);
    }
  }

  private static void statements() {
    LaneAtBorder x = new LaneAtBorder();
    Check.due("l00;c03;m3;c00;", Check.read(x, "l00;c03;m3;c00;"), 4);
    Check.due("then", Check.lanes(x), "1 2 3 0 1 7 | 0 0 2 5 7 2 10 1 0 30");
    Check.due("one more", Check.read(x, "l7912;"), 1);
    Check.due("comes behind", Check.lanes(x), "2 4 3 0 2 26 | 0 0 2 5 7 2 10 1 0 30| 7 9 2 12 26 1 3 1 0 12");
    Check.due("m0;", Check.read(x, "m0;"), 1);
    Check.due("no minute", x.count(2), 3);
    Check.due("m99;m10;", Check.read(x, "m99;m10;"), 2);
    Check.due("minutes", Check.lanes(x), "2 0 112 4 2 0 | 0 0 0 0 0 0 0 1 2 | 7 9 0 0 0 0 0 1 2 ");
    Check.due("minutes without lanes", Check.read(new LaneAtBorder(), "m7;"), 1);
    Check.due("room comes with minutes", Check.read(new LaneAtBorder(), "l1000000000;m1;c00;"), 3);
    Check.due("cars come into shut lanes", Check.read(x, "l5033;c20;"), 2);
    Check.due("shut with cars", x.lane(2, 2), 3);
    Check.due("a new one may be full", Check.read(new LaneAtBorder(), "l0000112233;"), 1);
    Check.due("five lanes", Check.read(new LaneAtBorder(), "l00;l19;l28;l37;l76;"), 5);
  }

  private static void faultsOfKind1() {
    String[] texts = {
      "", "l", "l0", "l00", "l00;l", "l0a;", "l;", "l0;", "c", "c;", "c0", "c0;", "c00", "c000;",
      "m", "m;", "m1", "m10", "m100;", "m00;", "m0", "m01;", ";", "l00;;", "L00;", "l00:", "l00/",
      "l80;x", "l80", "c99", "l00 ;", "m-1;", "l001x;",
    };
    int[] places = {
      0, 1, 2, 3, 5, 2, 1, 2, 1, 1, 2, 2, 3, 3,
      1, 1, 2, 3, 3, 2, 2, 2, 0, 4, 0, 3, 3,
      4, 3, 3, 3, 1, 4,
    };
    for (int i = 0; i < texts.length; i++) {
      Check.due("border " + texts[i], Check.read(new LaneAtBorder(), texts[i]), -1000 - places[i]);
    }
    LaneAtBorder x = new LaneAtBorder();
    Check.numbers(x, 0, 0, 'l', '0', '0', -128);
    Check.due("a byte below 0", x.border(0), -1003);
  }

  private static void faultsOfKind2() {
    String[] texts = {
      "l80;", "l99;", "l00;l80;", "l00;c04;", "l00;c10;", "c00;", "l004;", "l000039;",
      "l00;l00;l00;l00;l00;l00;", "l00000000000;", "l0000000000;c00;", "m1;c00;m1;",
      "l1000000000;m1;c00;c00;", "l80;c90;",
    };
    int[] places = {0, 0, 4, 4, 4, 0, 0, 0, 20, 0, 12, 3, 19, 0};
    for (int i = 0; i < texts.length; i++) {
      Check.due("border " + texts[i], Check.read(new LaneAtBorder(), texts[i]), -2000 - places[i]);
    }
    LaneAtBorder x = Check.of("l00;l00;l00;l00;");
    Check.due("with four there already", Check.read(x, "l00;l00;"), -2004);
    Check.due("a lane that was there", Check.read(x, "c33;c40;"), -2004);
  }

  private static void faultsChangeNothing() {
    LaneAtBorder x = Check.of("l0012;l31333;m2;");
    x.image();
    String before = Check.lanes(x);
    Check.due("kind 2 behind others", Check.read(x, "l00012;c00;m50;c90;"), -2015);
    Check.due("nothing came", Check.lanes(x), before);
    Check.due("kind 1 behind others", Check.read(x, "l00012;c00;m50;c9;"), -1017);
    Check.due("nothing came", Check.lanes(x), before);
    x.restore();
    Check.due("nor into the image", Check.lanes(x), before);
  }

  private static void refusedTexts() {
    LaneAtBorder x = Check.of("l00;");
    x.keep(1, 1, 0);
    x.row(2, 1, 4);
    x.row(3, 2, 4);
    Check.due("border(-1)", x.border(-1), -1);
    Check.due("border(8)", x.border(8), -1);
    Check.due("border of nothing", x.border(7), -11);
    Check.due("border of a lane", x.border(1), -12);
    Check.due("border of shorts", x.border(2), -12);
    Check.due("border of ints", x.border(3), -12);
    Check.text(x, 7, "l11;");
    Check.due("border of the last shelf", x.border(7), 1);
  }

  private static void lanesByKinds() {
    for (int kind = 0; kind < 8; kind++) {
      String sorts = "";
      for (int cars = 0; cars <= 8; cars++) {
        LaneAtBorder x = Check.of("l" + kind + "3" + sorts + ";");
        String lane = "lane of kind " + kind + " with " + cars + " cars: ";
        int wait = 0;
        int seems = 0;
        for (int i = 0; i < cars; i++) {
          wait += TAKES[kind][i % 4];
          seems += i < SEEN[kind][cars] ? TAKES[0][i % 4] : 0;
        }
        Check.due(lane + "kind", x.lane(0, 0), kind);
        Check.due(lane + "figure", x.lane(0, 1), 3);
        Check.due(lane + "cars", x.lane(0, 2), cars);
        Check.due(lane + "left", x.lane(0, 3), cars == 0 ? 0 : TAKES[kind][0]);
        Check.due(lane + "wait", x.lane(0, 4), wait);
        Check.due(lane + "seen", x.lane(0, 5), SEEN[kind][cars]);
        Check.due(lane + "seems", x.lane(0, 6), seems);
        Check.due(lane + "open", x.lane(0, 7), kind == 5 && cars >= 3 ? 0 : 1);
        Check.due(lane + "over", x.lane(0, 8), 0);
        sorts += cars % 4;
      }
    }
  }

  private static void lanesAsMinutesGoBy() {
    LaneAtBorder x = Check.of("l0031;l40000;m3;");
    Check.due("left", x.lane(0, 3), 5);
    Check.due("wait", x.lane(0, 4), 8);
    Check.due("seems is by what they take, not by what is left", x.lane(0, 6), 11);
    Check.due("went over there", x.lane(0, 8), 0);
    Check.due("went over in the other", x.lane(1, 8), 1);
    Check.due("hidden ones of figure 0 are not seen", x.lane(1, 5), 0);
    Check.due("nor seem long", x.lane(1, 6), 0);
    Check.due("lane(2, 0)", x.lane(2, 0), -1);
    Check.due("lane(-1, 0)", x.lane(-1, 0), -1);
    Check.due("lane(5, 0)", x.lane(5, 0), -1);
    Check.due("lane(0, -1)", x.lane(0, -1), -1);
    Check.due("lane(0, 9)", x.lane(0, 9), -1);
  }

  private static void cars() {
    LaneAtBorder x = Check.of("l003120;l11;");
    int[] sorts = {3, 1, 2, 0};
    for (int i = 0; i < 4; i++) {
      Check.due("car(0, " + i + ")", x.car(0, i), sorts[i]);
    }
    Check.due("car(0, 4)", x.car(0, 4), -1);
    Check.due("car(0, -1)", x.car(0, -1), -1);
    Check.due("car(1, 0)", x.car(1, 0), -1);
    Check.due("car(2, 0)", x.car(2, 0), -1);
    Check.due("car(-1, 0)", x.car(-1, 0), -1);
    x.minutes(8);
    Check.due("the next one is first", x.car(0, 0), 1);
    Check.due("the last place is free", x.car(0, 3), -1);
  }

  private static void takes() {
    for (int kind = 0; kind < 8; kind++) {
      LaneAtBorder x = Check.of("l" + kind + "3;");
      for (int sort = 0; sort < 4; sort++) {
        Check.due("kind " + kind + " takes " + sort, x.takes(0, sort), TAKES[kind][sort]);
      }
      Check.due("takes(0, 4)", x.takes(0, 4), -1);
      Check.due("takes(0, -1)", x.takes(0, -1), -1);
      Check.due("takes(1, 0)", x.takes(1, 0), -1);
      Check.due("takes(-1, 0)", x.takes(-1, 0), -1);
    }
    LaneAtBorder x = Check.of("l30;l39;l70;l79;l19;");
    Check.due("held 0", x.takes(0, 3), 16);
    Check.due("held 9", x.takes(1, 3), 25);
    Check.due("held 9 for sort 2", x.takes(1, 2), 10);
    Check.due("fled 0", x.takes(2, 0), 2);
    Check.due("fled 9", x.takes(3, 0), 11);
    Check.due("quick 9", x.takes(4, 0), 1);
  }
}
