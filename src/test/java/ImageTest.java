/** Promises 29 to 31: image, restore, count. */
public final class ImageTest {
  public static void main(String[] args) {
    imageAndRestore();
    imageOfNothing();
    shelvesStay();
    count();
    Check.end();
  }

  private static void imageAndRestore() {
    LaneAtBorder x = Check.of("l00012;l31333;m4;");
    Check.due("there is none", x.restore(), -3);
    String first = Check.lanes(x);
    Check.due("image", x.image(), 4);
    x.minutes(7);
    x.comes(0, 3);
    Check.read(x, "l69;l70000;m1;");
    String second = Check.lanes(x);
    Check.due("restore", x.restore(), 4);
    Check.due("all is as it was", Check.lanes(x), first);
    x.changes(1, 1, 0);
    x.minutes(60);
    Check.due("restore once more", x.restore(), 4);
    Check.due("all is as it was", Check.lanes(x), first);
    x.minutes(7);
    x.comes(0, 3);
    Check.read(x, "l69;l70000;m1;");
    Check.due("the same way again", Check.lanes(x), second);
    Check.due("another image", x.image(), 12);
    x.minutes(9);
    Check.due("that is restored", x.restore(), 12);
    Check.due("all is as it was then", Check.lanes(x), second);
  }

  private static void imageOfNothing() {
    LaneAtBorder x = new LaneAtBorder();
    Check.due("image of no lanes", x.image(), 0);
    Check.read(x, "l00012;m3;");
    Check.due("restore", x.restore(), 0);
    Check.due("no lanes", Check.lanes(x), "0 0 0 0 0 0 ");
    Check.due("all", x.all(), 0);
    Check.due("which", x.which(0), -4);
    Check.due("best", x.best(0), -4);
    Check.due("least", x.least(), 0);
    Check.due("oneLine", x.oneLine(), -4);
    Check.due("paysMost", x.paysMost(0), -4);
    Check.due("seeded", x.seeded(5, 5, 1), 0);
    Check.due("minutes", x.minutes(30), 0);
    x.restore();
    Check.read(x, "l73;");
    Check.due("a new lane is empty", Check.lanes(x), "1 0 0 0 1 0 | 7 3 0 0 0 0 0 1 0 ");
  }

  private static void shelvesStay() {
    LaneAtBorder x = Check.of("l12;");
    Check.numbers(x, 1, 2, 7);
    x.image();
    Check.numbers(x, 1, 1, 8, 9);
    Check.read(x, "l68;");
    x.keep(2, 1, 1);
    x.row(0, 0, 0);
    String shelves = Check.shelves(x);
    x.restore();
    Check.due("the lane is gone", x.count(0), 1);
    Check.due("the shelves are as they are", Check.shelves(x), shelves);
    Check.due("the lane that was kept", x.toll(2), 24);
    Check.due("its failure", x.toss(2), 224);
    Check.due("a lane that is gone is not kept again", x.keep(3, 1, 1), -1);
  }

  private static void count() {
    LaneAtBorder x = Check.of("l00012;l51;l52000;l0133333333;m3;");
    int[] due = {4, 13, 3, 1, 2, 61};
    for (int what = 0; what < due.length; what++) {
      Check.due("count(" + what + ")", x.count(what), due[what]);
    }
    int[] wrong = {-1, 6, Integer.MIN_VALUE, Integer.MAX_VALUE};
    for (int what : wrong) {
      Check.due("count(" + what + ")", x.count(what), -1);
    }
  }
}
