/** Promises 20 to 23: comers, opens, bySorts, advice. */
public final class ComersTest {
  public static void main(String[] args) {
    comers();
    comersThatGoHome();
    opens();
    bySorts();
    advice();
    refused();
    Check.end();
  }

  private static void comers() {
    LaneAtBorder x = Check.of("l00;l29;");
    Check.sorts(x, 1, "3210");
    String before = Check.everything(x);
    Check.due("by which", x.comers(1, 0, 0, 0), 4);
    Check.due("by which", x.comers(1, 0, 0, 1), 8 + 10 + 16 + 20);
    Check.due("by best", x.comers(1, 0, 1, 1), 8 + 10 + 11 + 13);
    Check.due("by their number", x.comers(1, 0, 2, 1), 8 + 10 + 11 + 14);
    Check.due("each 3 minutes", x.comers(1, 3, 0, 1), 8 + 10 + 13 + 2);
    Check.due("each 9 minutes", x.comers(1, 9, 0, 1), 8 + 5 + 3 + 2);
    Check.due("nothing changed", Check.everything(x), before);
    x.comes(0, 3);
    Check.due("behind those that stand", x.comers(1, 0, 2, 1), 16 + 10 + 19 + 14);
    x.row(1, 0, 0);
    Check.due("none come", x.comers(1, 0, 0, 0), 0);
    Check.due("none come", x.comers(1, 0, 0, 1), 0);
  }

  private static void comersThatGoHome() {
    LaneAtBorder full = Check.of("l0000000000;");
    Check.sorts(full, 1, "00");
    for (int rule = 0; rule < 3; rule++) {
      Check.due("no room", full.comers(1, 0, rule, 0), 0);
      Check.due("no room", full.comers(1, 0, rule, 1), 0);
      Check.due("room by then", full.comers(1, 2, rule, 0), 1);
      Check.due("room by then", full.comers(1, 2, rule, 1), 16);
    }
    LaneAtBorder shut = Check.of("l51;l00;");
    Check.sorts(shut, 1, "00000");
    Check.due("the shut one's turn is lost", shut.comers(1, 0, 2, 0), 3);
    Check.due("the shut one's turn is lost", shut.comers(1, 0, 2, 1), 5 + 2 + 4);
    LaneAtBorder none = new LaneAtBorder();
    Check.sorts(none, 1, "0123");
    for (int rule = 0; rule < 3; rule++) {
      Check.due("no lanes", none.comers(1, 1, rule, 0), 0);
      Check.due("no lanes", none.comers(1, 1, rule, 1), 0);
    }
  }

  private static void opens() {
    LaneAtBorder x = Check.of("l00;");
    Check.sorts(x, 1, "333");
    String before = Check.everything(x);
    Check.due("opens at 99", x.opens(1, 0, 99), 0);
    Check.due("opens at 8", x.opens(1, 0, 8), 1);
    Check.due("opens at 7", x.opens(1, 0, 7), 2);
    Check.due("opens at 0", x.opens(1, 0, 0), 3);
    Check.due("opens each 9 minutes", x.opens(1, 9, 8), 0);
    Check.sorts(x, 1, "33333333333333333333");
    Check.due("not above 5 lanes", x.opens(1, 0, 0), 4);
    Check.sorts(x, 1, "333");
    Check.due("nothing changed", Check.everything(x), before);
    LaneAtBorder waits = Check.of("l003;");
    Check.sorts(waits, 1, "0");
    Check.due("no minutes ahead of the first", waits.opens(1, 9, 5), 1);
    Check.due("no minutes ahead of the first", waits.comers(1, 9, 0, 1), 10);
    LaneAtBorder shut = Check.of("l50;");
    Check.sorts(shut, 1, "0");
    Check.due("none is open with room", shut.opens(1, 0, 99), 1);
    LaneAtBorder none = new LaneAtBorder();
    Check.sorts(none, 1, "00");
    Check.due("no lanes", none.opens(1, 0, 99), 1);
    LaneAtBorder five = Check.of("l50;l50;l50;l50;l50;");
    Check.sorts(five, 1, "00");
    Check.due("five lanes already", five.opens(1, 0, 0), 0);
    // The car goes where it seems least, not to the new lane: that is behind the hidden one.
    LaneAtBorder hidden = Check.of("l4033;");
    Check.sorts(hidden, 1, "000");
    Check.due("the new one is not chosen", hidden.opens(1, 0, 1), 1);
  }

  private static void bySorts() {
    LaneAtBorder x = Check.of("l0033333;l10;");
    Check.sorts(x, 1, "01");
    String before = Check.everything(x);
    Check.due("the least of several ways", x.bySorts(1, 0), 1);
    Check.due("its sum", x.bySorts(1, 1), 1 + 3);
    Check.due("nothing changed", Check.everything(x), before);
    Check.sorts(x, 1, "33");
    Check.due("sort 3 is the highest digit", x.bySorts(1, 0), 1000);
    Check.due("its sum", x.bySorts(1, 1), 7 + 14);
    LaneAtBorder one = Check.of("l1000000000;");
    Check.sorts(one, 1, "00000000000000000000");
    Check.due("lanes hold any number", one.bySorts(1, 1), 210);
    LaneAtBorder shut = Check.of("l50;");
    Check.sorts(shut, 1, "0");
    Check.due("shut ones too", shut.bySorts(1, 1), 5);
    LaneAtBorder many = Check.of("l79;l79;l79;l79;l60;");
    Check.sorts(many, 1, "0123");
    Check.due("all to the last", many.bySorts(1, 0), 4444);
    Check.due("its sum", many.bySorts(1, 1), 1 + 2 + 4 + 8);
    x.row(1, 0, 0);
    Check.due("no cars", x.bySorts(1, 0), 0);
    LaneAtBorder none = new LaneAtBorder();
    none.row(1, 0, 0);
    Check.due("no lanes", none.bySorts(1, 0), -4);
    Check.due("no lanes", none.bySorts(1, 1), -4);
  }

  private static void advice() {
    LaneAtBorder x = Check.of("l001;l79;");
    Check.due("regret", x.regret(0), 6);
    Check.due("advice(0, 99)", x.advice(0, 99), 594);
    Check.due("advice(0, 1)", x.advice(0, 1), 6);
    Check.due("advice(0, 0)", x.advice(0, 0), 0);
    Check.due("advice(0, 100)", x.advice(0, 100), -1);
    Check.due("advice(0, -1)", x.advice(0, -1), -1);
    Check.due("advice(4, 1)", x.advice(4, 1), -1);
    Check.due("advice(-1, 1)", x.advice(-1, 1), -1);
    LaneAtBorder none = Check.of("l50;");
    Check.due("none is open with room", none.advice(0, 1), -4);
    Check.due("a number out of range comes first", none.advice(0, 100), -1);
  }

  private static void refused() {
    LaneAtBorder x = Check.of("l00;");
    x.keep(2, 1, 0);
    x.row(3, 1, 2);
    x.row(4, 2, 2);
    x.row(5, 0, 21);
    Check.numbers(x, 6, 0, 0, 4);
    Check.numbers(x, 7, 0, 0, -1);
    Check.sorts(x, 1, "00000000000000000000");
    String before = Check.everything(x);
    int[] shelves = {-1, 8, 0, 2, 3, 4, 5, 6, 7};
    int[] due = {-1, -1, -11, -12, -12, -12, -13, -13, -13};
    for (int i = 0; i < shelves.length; i++) {
      int d = shelves[i];
      Check.due("comers of shelf " + d, x.comers(d, 0, 0, 0), due[i]);
      Check.due("opens of shelf " + d, x.opens(d, 0, 0), due[i]);
      Check.due("bySorts of shelf " + d, x.bySorts(d, 0), due[i]);
      Check.due("other numbers are looked at first", x.comers(d, 10, 0, 0), -1);
      Check.due("other numbers are looked at first", x.comers(d, 0, 3, 0), -1);
      Check.due("other numbers are looked at first", x.comers(d, 0, 0, 2), -1);
      Check.due("other numbers are looked at first", x.opens(d, 10, 0), -1);
      Check.due("other numbers are looked at first", x.opens(d, 0, 100), -1);
      Check.due("other numbers are looked at first", x.bySorts(d, 2), -1);
    }
    Check.due("twenty come", x.comers(1, 2, 0, 0), 20);
    Check.due("comers, m below 0", x.comers(1, -1, 0, 0), -1);
    Check.due("comers, rule below 0", x.comers(1, 0, -1, 0), -1);
    Check.due("comers, what below 0", x.comers(1, 0, 0, -1), -1);
    Check.due("opens, m below 0", x.opens(1, -1, 0), -1);
    Check.due("opens, n below 0", x.opens(1, 0, -1), -1);
    Check.due("bySorts, what below 0", x.bySorts(1, -1), -1);
    Check.due("nothing changed", Check.everything(x), before);
    Check.numbers(x, 6, 0, 4, 0);
    Check.due("the first is no sort", x.comers(6, 0, 0, 0), -13);
    x.row(6, 0, 0);
    Check.due("what stood in another row there does not matter", x.comers(6, 0, 0, 0), 0);
    LaneAtBorder none = new LaneAtBorder();
    Check.due("of the row ahead of no lanes", none.bySorts(1, 0), -11);
  }
}
