import java.util.function.Supplier;

/** Promises 1 to 5: a new object, border, lane, car, takes; how a BORDER is read. */
final class BorderCases {
  private static final int[] WILD = {Integer.MIN_VALUE, -1, Integer.MAX_VALUE};

  private BorderCases() {}

  static void run() {
    newObject();
    statements();
    textRefused();
    lanesOfAText();
    carsOfAText();
    howStatementsEnd();
    statementL();
    statementC();
    statementM();
    atLeastOne();
    faultOfKind1();
    faultOfKind2();
    allOrNothing();
    lane();
    laneRefused();
    seen();
    seems();
    open();
    waitAndLeft();
    car();
    takes();
    takesByKinds();
  }

  /** Reads a text on a new object: how many statements. */
  private static void reads(String text, int statements) {
    Check.due("border of " + text, Check.read(new LaneAtBorder(), text), statements);
  }

  private static void fault(String text, int due) {
    fault("", text, due);
  }

  /** A text behind another one has a fault, and nothing of it comes. */
  private static void fault(String ahead, String text, int due) {
    Supplier<LaneAtBorder> stage =
        () -> {
          LaneAtBorder x = ahead.isEmpty() ? new LaneAtBorder() : Check.of(ahead);
          x.image();
          Check.text(x, 0, text);
          return x;
        };
    Check.unchanged(stage, "border of " + text + " behind " + ahead, x -> x.border(0), due);
  }

  private static void newObject() {
    LaneAtBorder x = new LaneAtBorder();
    Check.says(1, "No LANES.");
    Check.due("count(0)", x.count(0), 0);
    Check.due("count(1)", x.count(1), 0);
    Check.due("count(4)", x.count(4), 0);
    Check.due("count(5)", x.count(5), 0);
    Check.due("lane(0, 0)", x.lane(0, 0), -1);
    Check.due("car(0, 0)", x.car(0, 0), -1);
    Check.due("takes(0, 0)", x.takes(0, 0), -1);
    Check.due("comes(0, 0)", x.comes(0, 0), -1);
    Check.due("keep(0, 1, 0)", x.keep(0, 1, 0), -1);
    Check.says(1, "CLOCK (minutes; 0 at first), PASSED (how many CARS went over; 0).");
    Check.due("count(2)", x.count(2), 0);
    Check.due("count(3)", x.count(3), 0);
    Check.says(1, "SHELVES 0 .. 7 each hold nothing (at first), a LANE, a ROW.");
    for (int d = 0; d < 8; d++) {
      Check.due("toll(" + d + ") of nothing", x.toll(d), -11);
      Check.due("put into nothing", x.put(d, 0, 0), -11);
    }
    Check.read(x, "l00;");
    for (int d = 0; d < 8; d++) {
      Check.due("a lane into shelf " + d, x.keep(d, 1, 0), 0);
      Check.due("its toll", x.toll(d), 4);
      Check.due("a row into shelf " + d, x.row(d, 0, 1), 0);
      Check.due("its element", Check.element(x, d, 0), "0");
    }
  }

  private static void statements() {
    Check.says(2, "The text in SHELF d: how many STATEMENTS; the FAULT.");
    reads("m1;", 1);
    reads("l00;c03;m3;c00;", 4);
    reads("m1;".repeat(33), 33);
    reads("m99;".repeat(25), 25);
    fault("m99;".repeat(24) + "m999", -1099);
    LaneAtBorder x = new LaneAtBorder();
    Check.text(x, 7, "l00;c03;m3;c00;");
    Check.due("border(7)", x.border(7), 4);
    Check.due("then", Check.lanes(x), "1 2 3 0 1 7 | 0 0 2 5 7 2 10 1 0 30");
    Check.text(x, 0, "l7912;");
    Check.due("border(0)", x.border(0), 1);
    Check.due("comes behind", Check.lanes(x), "2 4 3 0 2 26 | 0 0 2 5 7 2 10 1 0 30| 7 9 2 12 26 1 3 1 0 12");
    Check.says(2, "what is put in keeps its lowest bits");
    Check.numbers(x, 0, 0, 'l' + 256, '0' - 256, '0' + 65536, ';' - 65536);
    Check.due("border of bytes that wrapped around", x.border(0), 1);
    Check.numbers(x, 0, 0, 'l', '0', '0', ';' + 128);
    Check.due("border with a byte below 0", x.border(0), -1003);
  }

  private static void textRefused() {
    Supplier<LaneAtBorder> stage =
        () -> {
          LaneAtBorder x = Check.of("l0012;m1;");
          x.image();
          x.keep(1, 1, 0);
          Check.numbers(x, 2, 1, 'm', '1', ';');
          Check.numbers(x, 3, 2, 'm', '1', ';');
          x.row(4, 1, 0);
          return x;
        };
    Check.says(2, "-1, -11, -12 (no ROW of bytes).");
    for (int d : new int[] {-1, 8, Integer.MIN_VALUE, Integer.MAX_VALUE}) {
      Check.unchanged(stage, "border(" + d + ")", x -> x.border(d), -1);
    }
    Check.unchanged(stage, "border of nothing", x -> x.border(0), -11);
    Check.unchanged(stage, "border of a lane", x -> x.border(1), -12);
    Check.unchanged(stage, "border of shorts", x -> x.border(2), -12);
    Check.unchanged(stage, "border of ints", x -> x.border(3), -12);
    Check.unchanged(stage, "border of no shorts, ahead of a fault", x -> x.border(4), -12);
  }

  private static void lanesOfAText() {
    Check.says(
        2,
        "4 as they come, of KINDS: 0 LANE; 1 QUICK under LANE; 2 SLOW under LANE; 3 HELD under SLOW;"
            + " 4 HIDDEN under LANE; 5 SHUT under SLOW; 6 NEW under QUICK; 7 FLED under LANE: a FIGURE (0 .. 9).");
    reads("l00;l19;l28;l37;l76;", 5);
    fault("l00;l19;l28;l37;l76;l00;", -2020);
    fault("l00;l00;l00;l00;l00;", "l00;", -2000);
    fault("l00;l00;l00;l00;", "l00;l00;", -2004);
    for (int kind = 0; kind <= 7; kind++) {
      LaneAtBorder x = Check.of("l" + kind + "0;l" + kind + "9;");
      Check.due("kind", x.lane(0, 0), kind);
      Check.due("figure", x.lane(0, 1), 0);
      Check.due("kind", x.lane(1, 0), kind);
      Check.due("figure", x.lane(1, 1), 9);
    }
    fault("l80;", -2000);
    fault("l90;", -2000);
  }

  private static void carsOfAText() {
    Check.says(
        2,
        "In each up to 8 CARS one behind the other, of SORTS 0 .. 3; the first one has minutes LEFT.");
    reads("l0001230123;", 1);
    fault("l00012301230;", -2000);
    reads("l000123012;c03;", 2);
    fault("l0001230123;c03;", -2012);
    fault("l0001230123;", "c03;", -2000);
    fault("l00012301230123;", -2000);
    fault("l004;", -2000);
    fault("l009;", -2000);
    fault("l0000000004;", -2000);
    reads("l00;c03;", 2);
    fault("l00;c04;", -2004);
    fault("l00;c09;", -2004);
    LaneAtBorder x = Check.of("l0031;");
    Check.due("left of the first", x.lane(0, 3), 8);
  }

  private static void howStatementsEnd() {
    Check.says(2, "A BORDER is read from bytes: STATEMENTS, each with ; behind:");
    fault(";", -1000);
    fault("l00;;", -1004);
    fault("m1;;", -1003);
    fault("l00", -1003);
    fault("l00l00;", -1003);
    fault("m1m1;", -1002);
    fault("c00c00;", -1003);
    fault("l00:", -1003);
    fault("m1:", -1002);
    fault("z", -1000);
    fault("L00;", -1000);
    fault("k00;", -1000);
    fault(" l00;", -1000);
    fault("l00; m1;", -1004);
  }

  private static void statementL() {
    Check.says(
        2,
        "l, KIND, FIGURE (digits), then SORTS (digits; as many as there are CARS, 0 well): a LANE more;");
    reads("l00;", 1);
    Check.due("cars", Check.of("l00;").lane(0, 2), 0);
    Check.due("cars", Check.of("l003;").lane(0, 2), 1);
    fault("l;", -1001);
    fault("l0;", -1002);
    fault("l/0;", -1001);
    fault("l:0;", -1001);
    fault("l0/;", -1002);
    fault("l0:;", -1002);
    fault("l00/;", -1003);
    fault("l00:;", -1003);
    fault("l00 ;", -1003);
    fault("l001x;", -1004);
    fault("l-1;", -1001);
  }

  private static void statementC() {
    Check.says(2, "c, a LANE, a SORT (digits): a CAR comes in (OPEN does not matter);");
    reads("l00;c00;", 2);
    fault("c;", -1001);
    fault("c0;", -1002);
    fault("c000;", -1003);
    fault("c/0;", -1001);
    fault("c:0;", -1001);
    fault("c0/;", -1002);
    fault("c0:;", -1002);
    LaneAtBorder x = Check.of("l50;l5233;");
    Check.due("shut ones", x.lane(0, 7) + x.lane(1, 7), 0);
    Check.due("cars into both", Check.read(x, "c00;c13;"), 2);
    Check.due("cars in the one of figure 0", x.lane(0, 2), 1);
    Check.due("its left", x.lane(0, 3), 5);
    Check.due("cars in the other one", x.lane(1, 2), 3);
    Check.due("a lane of more cars than its figure", Check.of("l51000;").lane(0, 2), 3);
  }

  private static void statementM() {
    Check.says(2, "m, MINUTES (1 or 2 digits, no 0 ahead of another) that go by.");
    String[] minutes = {"0", "1", "9", "10", "60", "61", "99"};
    for (String n : minutes) {
      Check.due("clock behind m" + n, Check.of("m" + n + ";").count(2), Integer.parseInt(n));
    }
    fault("m;", -1001);
    fault("m00;", -1002);
    fault("m01;", -1002);
    fault("m09;", -1002);
    fault("m000;", -1002);
    fault("m100;", -1003);
    fault("m/;", -1001);
    fault("m:;", -1001);
    fault("m1/;", -1002);
    fault("m1:;", -1002);
    fault("m-1;", -1001);
    LaneAtBorder x = Check.of("l10000;m2;l10000;m1;");
    Check.due("then", Check.lanes(x), "2 2 3 4 2 2 | 1 0 0 0 0 0 0 1 3 | 1 0 2 1 2 2 4 1 1 00");
    Check.due("room comes with minutes", Check.read(new LaneAtBorder(), "l1000000000;m1;c00;"), 3);
    fault("l1000000000;m1;c00;c00;", -2019);
  }

  private static void atLeastOne() {
    Check.says(2, "At least one STATEMENT.");
    fault("", -1000);
    fault("l0012;m1;", "", -1000);
  }

  private static void faultOfKind1() {
    Check.says(
        2,
        "FAULT: kind 1 the place of the first byte with which no BORDER can go on (the size, if it ends too early);");
    String[] tooEarly = {"l", "l0", "l00", "l00123", "l00;l", "c", "c0", "c00", "m", "m0", "m1", "m10", "m1;m"};
    for (String text : tooEarly) {
      fault(text, -1000 - text.length());
    }
    fault("m1;".repeat(33) + "m", -1100);
    fault("m1;".repeat(33) + "x", -1099);
    fault("l80", -1003);
    fault("c99", -1003);
    fault("x;y;", -1000);
    LaneAtBorder x = new LaneAtBorder();
    Check.numbers(x, 0, 0, 'm', '1', ';', 0);
    Check.due("border with a byte 0 behind", x.border(0), -1003);
    for (int sign : new int[] {-128, -1, 0, 127}) {
      Check.numbers(x, 0, 0, sign, '1', ';');
      Check.due("border that begins with the byte " + sign, x.border(0), -1000);
    }
  }

  private static void faultOfKind2() {
    Check.says(
        2,
        "else kind 2 the place of the letter of the first STATEMENT that isn't as told"
            + " (a number out of range, no such LANE, no room): -1000 times the kind less the place.");
    fault("l80;x", -1004);
    fault("c00;m00;", -1006);
    fault("l00;l80;", -2004);
    fault("l00;l004;", -2004);
    fault("l00;l003024;c90;", -2004);
    fault("c00;", -2000);
    fault("l00;c10;", -2004);
    fault("l00;l00;l00;l00;l00;c43;c53;", -2024);
    fault("c00;l00;", -2000);
    fault("l00;l00;l00;l00;", "c33;c40;", -2004);
    fault("m1;c00;c90;l80;", -2003);
    fault("m1;".repeat(32) + "c00;", -2096);
    fault("l0000000000;c00;", -2012);
    fault("l00;l00;l00;l00;l00;l00;", -2020);
  }

  private static void allOrNothing() {
    Check.says(2, "Without FAULT all of it comes; with one nothing.");
    LaneAtBorder x = Check.of("l0012;m2;l31333;c00;");
    Check.due("all of it", Check.lanes(x), "2 6 2 0 2 51 | 0 0 3 1 8 3 10 1 0 120| 3 1 3 17 51 2 16 1 0 333");
    fault("l0012;l31333;m2;", "l00012;c00;m50;c90;", -2015);
    fault("l0012;l31333;m2;", "l00012;c00;m50;c9;", -1017);
    fault("l0012;l31333;m2;", "m50;l0001294;", -2004);
    fault("l0012;l31333;m2;", "c00;c00;c00;c00;c00;c00;c00;", -2024);
  }

  private static void lane() {
    Check.says(
        3,
        "Of a LANE: 0 KIND, 1 FIGURE, 2 CARS, 3 LEFT, 4 WAIT, 5 SEEN, 6 SEEMS, 7 1 if OPEN, 8 how many went over there.");
    LaneAtBorder x = Check.of("l5901230;l43222;m6;");
    int[][] due = {{5, 9, 4, 6, 6 + 11 + 17 + 5, 1, 3, 1, 1}, {4, 3, 2, 4, 9, 2, 10, 1, 1}};
    for (int lane = 0; lane < 2; lane++) {
      for (int what = 0; what <= 8; what++) {
        Check.due("lane(" + lane + ", " + what + ")", x.lane(lane, what), due[lane][what]);
      }
    }
    x.minutes(60);
    Check.due("all went over", x.lane(0, 8), 5);
    Check.due("and in the other", x.lane(1, 8), 3);
  }

  private static void laneRefused() {
    Supplier<LaneAtBorder> stage = () -> Check.of("l00012;l11;");
    Check.says(3, "-1.");
    Check.due("the last lane", stage.get().lane(1, 0), 1);
    for (int wrong : new int[] {Integer.MIN_VALUE, -1, 2, 4, 5, Integer.MAX_VALUE}) {
      Check.unchanged(stage, "lane(" + wrong + ", 0)", x -> x.lane(wrong, 0), -1);
    }
    for (int wrong : new int[] {Integer.MIN_VALUE, -1, 9, Integer.MAX_VALUE}) {
      Check.unchanged(stage, "lane(0, " + wrong + ")", x -> x.lane(0, wrong), -1);
    }
    Check.due("of five lanes the last", Check.of("l00;l00;l00;l00;l70;").lane(4, 0), 7);
    Check.due("of five lanes the sixth", Check.of("l00;l00;l00;l00;l70;").lane(5, 0), -1);
  }

  /** How many one sees of 0, 1, .. 8 cars. */
  private static void seen(String words, int kind, int figure, int... due) {
    Check.says(3, words);
    for (int cars = 0; cars <= 8; cars++) {
      LaneAtBorder x = Check.of("l" + kind + figure + "0".repeat(cars) + ";");
      Check.due("seen of " + cars + " in kind " + kind + ", figure " + figure, x.lane(0, 5), due[cars]);
    }
  }

  private static void seen() {
    seen("SEEN (how many CARS of n there one sees): LANE n;", 0, 1, 0, 1, 2, 3, 4, 5, 6, 7, 8);
    seen("QUICK as a LANE;", 1, 1, 0, 1, 2, 3, 4, 5, 6, 7, 8);
    seen("SLOW a LANE's less 1, 0 at least;", 2, 1, 0, 0, 1, 2, 3, 4, 5, 6, 7);
    seen("HELD as a SLOW;", 3, 1, 0, 0, 1, 2, 3, 4, 5, 6, 7);
    seen("HIDDEN a LANE's, but FIGURE at most;", 4, 0, 0, 0, 0, 0, 0, 0, 0, 0, 0);
    seen("HIDDEN a LANE's, but FIGURE at most;", 4, 1, 0, 1, 1, 1, 1, 1, 1, 1, 1);
    seen("HIDDEN a LANE's, but FIGURE at most;", 4, 7, 0, 1, 2, 3, 4, 5, 6, 7, 7);
    seen("HIDDEN a LANE's, but FIGURE at most;", 4, 9, 0, 1, 2, 3, 4, 5, 6, 7, 8);
    seen("SHUT half of a SLOW's, cut;", 5, 1, 0, 0, 0, 1, 1, 2, 2, 3, 3);
    seen("NEW as a QUICK;", 6, 1, 0, 1, 2, 3, 4, 5, 6, 7, 8);
    seen("FLED half of a LANE's, up.", 7, 1, 0, 1, 1, 2, 2, 3, 3, 4, 4);
  }

  private static void seems() {
    Check.says(3, "SEEMS: what the first SEEN ones would TAKE in a LANE (of KIND 0), together.");
    Check.due("no cars", Check.of("l00;").lane(0, 6), 0);
    Check.due("cars that are not seen", Check.of("l4033;").lane(0, 6), 0);
    Check.due("one car in a slow lane", Check.of("l203;").lane(0, 6), 0);
    Check.due("all but the last", Check.of("l20123;").lane(0, 6), 3 + 5);
    Check.due("the first half, up", Check.of("l793000333;").lane(0, 6), 8 + 2 + 2 + 2);
    Check.due("a full lane", Check.of("l1033333333;").lane(0, 6), 64);
    Check.due("not what is left", Check.of("l0031;m7;").lane(0, 6), 8 + 3);
  }

  private static void open() {
    Check.says(3, "OPEN (whether a CAR may come in): LANE yes;");
    Check.due("full", Check.of("l0000000000;").lane(0, 7), 1);
    Check.says(3, "SHUT while it has fewer CARS than FIGURE;");
    for (int figure = 0; figure <= 9; figure++) {
      for (int cars = 0; cars <= 8; cars++) {
        LaneAtBorder x = Check.of("l5" + figure + "0".repeat(cars) + ";");
        Check.due(cars + " cars, figure " + figure, x.lane(0, 7), cars < figure ? 1 : 0);
      }
    }
    LaneAtBorder x = Check.of("l5100;");
    x.minutes(9);
    Check.due("a minute ahead", x.lane(0, 7), 0);
    x.minutes(1);
    Check.due("open again", x.lane(0, 7), 1);
    Check.says(3, "others as those above them.");
    for (int kind : new int[] {1, 2, 3, 4, 6, 7}) {
      Check.due("kind " + kind, Check.of("l" + kind + "0;").lane(0, 7), 1);
      Check.due("kind " + kind + ", full", Check.of("l" + kind + "000000000;").lane(0, 7), 1);
    }
  }

  private static void waitAndLeft() {
    Check.says(3, "WAIT in a LANE: LEFT of the first, and what all others there TAKE, together (0 without CARS).");
    Check.due("no cars", Check.of("l00;").lane(0, 4), 0);
    Check.due("one car", Check.of("l703;m7;").lane(0, 4), 1);
    Check.due("its left", Check.of("l703;m7;").lane(0, 3), 1);
    Check.due("none any more", Check.of("l703;m8;").lane(0, 4), 0);
    Check.due("none left", Check.of("l703;m8;").lane(0, 3), 0);
    Check.due("a full lane", Check.of("l3933333333;").lane(0, 4), 8 * 25);
    Check.due("a full lane later", Check.of("l3933333333;m24;").lane(0, 4), 8 * 25 - 24);
  }

  private static void car() {
    Check.says(4, "SORT of the CAR at place i of a LANE.");
    Supplier<LaneAtBorder> stage = () -> Check.of("l0031200123;l11;l6030;");
    int[] sorts = {3, 1, 2, 0, 0, 1, 2, 3};
    for (int i = 0; i < 8; i++) {
      Check.due("car(0, " + i + ")", stage.get().car(0, i), sorts[i]);
    }
    Check.due("car(2, 1)", stage.get().car(2, 1), 0);
    Check.says(4, "-1.");
    Check.unchanged(stage, "behind a full lane", x -> x.car(0, 8), -1);
    Check.unchanged(stage, "behind the last car", x -> x.car(2, 2), -1);
    Check.unchanged(stage, "of no cars", x -> x.car(1, 0), -1);
    Check.unchanged(stage, "of the lane behind the last", x -> x.car(3, 0), -1);
    for (int wrong : WILD) {
      Check.unchanged(stage, "car(0, " + wrong + ")", x -> x.car(0, wrong), -1);
      Check.unchanged(stage, "car(" + wrong + ", 0)", x -> x.car(wrong, 0), -1);
    }
    LaneAtBorder x = stage.get();
    x.minutes(8);
    Check.due("the next one is first", x.car(0, 0), 1);
    Check.due("the last place is free", x.car(0, 7), -1);
  }

  private static void takes() {
    Check.says(5, "TAKES.");
    Supplier<LaneAtBorder> stage = () -> Check.of("l0033333333;l30;");
    Check.due("takes(0, 0)", stage.get().takes(0, 0), 2);
    Check.due("takes(1, 3)", stage.get().takes(1, 3), 16);
    Check.says(5, "-1.");
    for (int wrong : new int[] {Integer.MIN_VALUE, -1, 4, Integer.MAX_VALUE}) {
      Check.unchanged(stage, "takes(0, " + wrong + ")", x -> x.takes(0, wrong), -1);
    }
    for (int wrong : new int[] {Integer.MIN_VALUE, -1, 2, 5, Integer.MAX_VALUE}) {
      Check.unchanged(stage, "takes(" + wrong + ", 0)", x -> x.takes(wrong, 0), -1);
    }
  }

  private static void takes(String words, int kind, int figure, int... due) {
    Check.says(5, words);
    LaneAtBorder x = Check.of("l" + kind + figure + ";");
    for (int sort = 0; sort < 4; sort++) {
      Check.due("sort " + sort + " in kind " + kind + ", figure " + figure, x.takes(0, sort), due[sort]);
    }
  }

  private static void takesByKinds() {
    takes("TAKES (minutes) of a SORT in a LANE: LANE 2, 3, 5, 8 by SORTS;", 0, 9, 2, 3, 5, 8);
    takes("QUICK a LANE's less 1;", 1, 9, 1, 2, 4, 7);
    takes("SLOW twice a LANE's;", 2, 9, 4, 6, 10, 16);
    takes("HELD a SLOW's, and for SORT 3 FIGURE more;", 3, 0, 4, 6, 10, 16);
    takes("HELD a SLOW's, and for SORT 3 FIGURE more;", 3, 9, 4, 6, 10, 25);
    takes("HIDDEN as a LANE;", 4, 9, 2, 3, 5, 8);
    takes("SHUT a SLOW's and 1;", 5, 9, 5, 7, 11, 17);
    takes("NEW half of a QUICK's, up;", 6, 9, 1, 1, 2, 4);
    takes("FLED a LANE's and FIGURE.", 7, 0, 2, 3, 5, 8);
    takes("FLED a LANE's and FIGURE.", 7, 9, 11, 12, 14, 17);
  }
}
