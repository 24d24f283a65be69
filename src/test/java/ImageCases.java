/** Promises 29 to 31: image, restore, count. */
final class ImageCases {
  private ImageCases() {}

  static void run() {
    imageAndRestore();
    imageOfNothing();
    nothingIsLeftBehind();
    noImage();
    allButShelves();
    count();
    countRefused();
  }

  private static void imageAndRestore() {
    LaneAtBorder x = Check.of("l00012;l31333;m4;");
    String first = Check.lanes(x);
    Check.says(29, "THE IMAGE is taken: CLOCK.");
    Check.due("image", x.image(), 4);
    Check.due("it changes nothing else", Check.lanes(x), first);
    Check.says(30, "RESTORED all is as it was then.");
    x.minutes(7);
    x.comes(0, 3);
    Check.read(x, "l69;l70000;m1;");
    String second = Check.lanes(x);
    Check.due("restore", x.restore(), 4);
    Check.due("all is as it was", Check.lanes(x), first);
    x.changes(1, 1, 0);
    x.minutes(60);
    Check.says(30, "THE IMAGE is RESTORED: CLOCK.");
    Check.due("restore once more", x.restore(), 4);
    Check.due("all is as it was", Check.lanes(x), first);
    x.minutes(7);
    x.comes(0, 3);
    Check.read(x, "l69;l70000;m1;");
    Check.due("the same way again", Check.lanes(x), second);
    Check.says(29, "THE IMAGE is taken: CLOCK.");
    Check.due("another image", x.image(), 12);
    x.minutes(9);
    Check.due("that is restored", x.restore(), 12);
    Check.due("all is as it was then", Check.lanes(x), second);
  }

  private static void imageOfNothing() {
    LaneAtBorder x = new LaneAtBorder();
    Check.says(30, "RESTORED all is as it was then.");
    Check.due("image of no lanes", x.image(), 0);
    Check.read(x, "l00012;l50;l00;l00;l00;m3;");
    Check.due("restore", x.restore(), 0);
    Check.due("no lanes", Check.lanes(x), "0 0 0 0 0 0 ");
    Check.due("all", x.all(), 0);
    Check.due("which", x.which(0), -4);
    Check.due("least", x.least(), 0);
    Check.due("oneLine", x.oneLine(), -4);
    Check.due("seeded", x.seeded(5, 5, 1), 0);
    Check.due("five lanes come again", Check.read(x, "l73;l73;l73;l73;l73;"), 5);
    Check.due("a new lane is empty", Check.lanes(x).substring(0, 40), "5 0 0 0 5 0 | 7 3 0 0 0 0 0 1 0 | 7 3 0 ");
    LaneAtBorder full = Check.of("l3933333333;l3933333333;l3933333333;l3933333333;l3933333333;");
    String before = Check.lanes(full);
    full.image();
    full.minutes(60);
    full.restore();
    Check.due("five full lanes", Check.lanes(full), before);
  }

  /** Lanes that come in where others were before have nothing of them. */
  private static void nothingIsLeftBehind() {
    LaneAtBorder x = new LaneAtBorder();
    Check.says(30, "RESTORED all is as it was then.");
    x.image();
    for (int time = 0; time < 3; time++) {
      Check.due("full lanes come", Check.read(x, "l5933333333;l0133333333;m20;"), 3);
      x.restore();
    }
    Check.sorts(x, 1, "00");
    Check.due("a lane that is opened has room", x.opens(1, 0, 99), 1);
    Check.read(x, "l00;");
    Check.due("an empty lane", Check.lanes(x), "1 0 0 0 1 0 | 0 0 0 0 0 0 0 1 0 ");
    Check.due("times in it", x.comes(0, 3), 8);
  }

  private static void noImage() {
    Check.says(30, "-3: there is none.");
    Check.unchanged(LaneAtBorder::new, "restore on a new object", LaneAtBorder::restore, -3);
    Check.unchanged(() -> Check.of("l00012;m1;"), "restore", LaneAtBorder::restore, -3);
    LaneAtBorder x = Check.of("l00012;m1;");
    x.rests(0, 0);
    x.seeded(9, 9, 0);
    Check.due("what was in mind is no image", x.restore(), -3);
  }

  private static void allButShelves() {
    LaneAtBorder x = Check.of("l12;");
    Check.says(29, "THE IMAGE: all that there is, but SHELVES (and THE IMAGE);");
    Check.numbers(x, 1, 2, 7);
    x.image();
    Check.numbers(x, 1, 1, 8, 9);
    Check.read(x, "l68;");
    x.keep(2, 1, 1);
    x.row(0, 0, 0);
    String shelves = Check.shelves(x);
    x.restore();
    Check.due("the lane is gone", x.count(0), 1);
    Check.due("the shelves are as they are", Check.shelves(x), shelves);
    Check.due("the lane that was kept", x.toll(2), 24);
    Check.due("its failure", x.toss(2), 224);
    Check.due("a lane that is gone is not kept again", x.keep(3, 1, 1), -1);
    Check.due("the image is still there", x.restore(), 0);
  }

  private static void count() {
    Check.says(31, "0 LANES, 1 CARS, 2 CLOCK, 3 PASSED, 4 OPEN LANES with room, 5 the greatest WAIT;");
    LaneAtBorder x = Check.of("l00012;l51;l52000;l0133333333;m3;");
    int[] due = {4, 13, 3, 1, 2, 61};
    for (int what = 0; what < due.length; what++) {
      Check.due("count(" + what + ")", x.count(what), due[what]);
    }
    Check.due("all cars", Check.of("l0000000000;l0000000000;l0000000000;l0000000000;l0000000000;").count(1), 40);
    Check.due("all full", Check.of("l0000000000;l0000000000;").count(4), 0);
    Check.due("one with room", Check.of("l0000000000;l000000000;").count(4), 1);
    Check.due("full and shut", Check.of("l5933333333;l50;").count(4), 0);
    Check.due("shut ones below and at their figures", Check.of("l520;l5200;").count(4), 1);
    Check.due("the greatest wait, the first lane's", Check.of("l003;l00;").count(5), 8);
    Check.due("the greatest wait, the last lane's", Check.of("l00;l003;").count(5), 8);
    Check.due("no waits", Check.of("l00;l00;").count(5), 0);
    Check.due("no lanes", new LaneAtBorder().count(5), 0);
  }

  private static void countRefused() {
    Check.says(31, "-1 for others.");
    for (int wrong : new int[] {Integer.MIN_VALUE, -1, 6, Integer.MAX_VALUE}) {
      Check.unchanged(() -> Check.of("l00012;"), "count(" + wrong + ")", x -> x.count(wrong), -1);
    }
  }
}
