import java.util.Random;

/** Runs of calls by seeds, each answered by the class and by the model; wild numbers among them. */
public final class ModelTest {
  private static final int RUNS = 1500;
  private static final int MOST_CALLS = 512;

  private final Random random;
  private final LaneAtBorder x = new LaneAtBorder();
  private final Model model = new Model();
  private final StringBuilder calls = new StringBuilder();
  private int made = 0;

  private ModelTest(long seed) {
    random = new Random(seed);
  }

  public static void main(String[] args) {
    for (int seed = 0; seed < RUNS; seed++) {
      new ModelTest(seed).run(seed);
    }
    Check.end();
  }

  private void run(int seed) {
    int empty = random.nextInt(4);
    if (empty != 0) {
      giveText(random.nextInt(8), text(1 + random.nextInt(6)));
    }
    while (made < MOST_CALLS - 60) {
      call(random.nextInt(48));
    }
    String lanes = Check.lanes(x);
    Check.due("run " + seed + ", lanes at its end", lanes, lanesOfModel());
  }

  private String lanesOfModel() {
    StringBuilder all = new StringBuilder();
    for (int what = 0; what <= 5; what++) {
      all.append(model.count(what)).append(' ');
    }
    for (int lane = 0; lane < model.count(0); lane++) {
      all.append("| ");
      for (int what = 0; what <= 8; what++) {
        all.append(model.lane(lane, what)).append(' ');
      }
      for (int i = 0; i < model.lane(lane, 2); i++) {
        all.append(model.car(lane, i));
      }
    }
    return all.toString();
  }

  /** A number of a range, now and then one at its edges, just outside or far outside. */
  private int of(int from, int to) {
    switch (random.nextInt(40)) {
      case 0: return from - 1;
      case 1: return to + 1;
      case 2: return from;
      case 3: return to;
      case 4: return new int[] {Integer.MIN_VALUE, Integer.MAX_VALUE, -1, 1 << 16}[random.nextInt(4)];
      default: return from + random.nextInt(to - from + 1);
    }
  }

  private int lane() {
    return of(0, Math.max(0, model.count(0) - 1));
  }

  private int place(int lane) {
    return of(0, Math.max(1, model.lane(lane, 2) - 1));
  }

  private int shelf() {
    return of(0, 7);
  }

  private String text(int statements) {
    StringBuilder text = new StringBuilder();
    for (int i = 0; i < statements; i++) {
      int letter = random.nextInt(10);
      if (letter < 6) {
        text.append('l').append(random.nextInt(8)).append(random.nextInt(10));
        int cars = random.nextInt(random.nextInt(8) == 0 ? 10 : 7);
        for (int c = 0; c < cars; c++) {
          text.append(random.nextInt(4));
        }
      } else if (letter < 8) {
        text.append('c').append(random.nextInt(3)).append(random.nextInt(4));
      } else {
        text.append('m').append(random.nextInt(random.nextInt(3) == 0 ? 100 : 12));
      }
      text.append(';');
    }
    if (random.nextInt(6) == 0 && text.length() > 0) {
      text.setCharAt(random.nextInt(text.length()), "lcm;0189z/:".charAt(random.nextInt(11)));
    }
    if (random.nextInt(12) == 0) {
      text.setLength(random.nextInt(text.length() + 1));
    }
    return text.length() > 90 ? text.substring(0, 90) : text.toString();
  }

  private void giveText(int d, String text) {
    due("row", x.row(d, 0, text.length()), model.row(d, 0, text.length()));
    for (int i = 0; i < text.length() && made < MOST_CALLS - 60; i++) {
      due("put", x.put(d, i, text.charAt(i)), model.put(d, i, text.charAt(i)));
    }
    due("border(" + d + ") of " + text, x.border(d), model.border(d));
  }

  private void giveSorts() {
    int d = random.nextInt(8);
    int n = of(0, 20);
    due("row", x.row(d, 0, n), model.row(d, 0, n));
    for (int i = 0; i < n && i < 30 && made < MOST_CALLS - 60; i++) {
      int v = random.nextInt(150) == 0 ? of(0, 3) : random.nextInt(4);
      due("put", x.put(d, i, v), model.put(d, i, v));
    }
    for (int k = 0; k < 3; k++) {
      comers(d);
    }
  }

  private void giveNumbers() {
    int d = random.nextInt(8);
    int sort = of(0, 2);
    int n = random.nextInt(8);
    int lane = lane();
    due("row", x.row(d, sort, n), model.row(d, sort, n));
    int there = model.lane(lane, 2);
    for (int i = 0; i < n; i++) {
      there -= random.nextInt(3) == 0 ? 1 : 0;
      int least = new int[] {-128, -32768, Integer.MIN_VALUE}[random.nextInt(3)];
      int v = random.nextInt(5) == 0 ? least : Math.max(0, there);
      due("put", x.put(d, i, v), model.put(d, i, v));
    }
    due("judge(" + lane + ", " + d + ")", x.judge(lane, d), model.judge(lane, d));
  }

  private void comers(int d) {
    int m = of(0, 9);
    int rule = of(0, 2);
    int n = random.nextBoolean() ? of(0, 99) : of(0, 12);
    String numbers = "(" + d + ", " + m + ", " + rule + ", " + n + ")";
    for (int what = 0; what < 2; what++) {
      due("comers" + numbers, x.comers(d, m, rule, what), model.comers(d, m, rule, what));
      due("bySorts" + numbers, x.bySorts(d, what), model.bySorts(d, what));
    }
    due("opens" + numbers, x.opens(d, m, n), model.opens(d, m, n));
  }

  private void due(String call, long got, long want) {
    made++;
    calls.append(call).append(' ').append(want).append('\n');
    Check.due(call, got, want);
    if (got != want) {
      throw new IllegalStateException("the run was\n" + calls);
    }
  }

  private void call(int which) {
    if (which < 12) {
      callOfLanes(which);
    } else if (which < 26) {
      callOfChanges(which);
    } else if (which < 38) {
      callOfNews(which);
    } else {
      callOfShelves(which);
    }
  }

  private void callOfLanes(int which) {
    int lane = lane();
    int i = place(lane);
    int sort = of(0, 3);
    int what = of(0, 8);
    String numbers = "(" + lane + ", " + i + ", " + sort + ", " + what + ")";
    switch (which) {
      case 0: due("lane" + numbers, x.lane(lane, what), model.lane(lane, what)); break;
      case 1: due("car" + numbers, x.car(lane, i), model.car(lane, i)); break;
      case 2: due("takes" + numbers, x.takes(lane, sort), model.takes(lane, sort)); break;
      case 3:
      case 4:
      case 5: due("comes" + numbers, x.comes(lane, sort), model.comes(lane, sort)); break;
      case 6: due("which" + numbers, x.which(sort), model.which(sort)); break;
      case 7: due("best" + numbers, x.best(sort), model.best(sort)); break;
      case 8: due("regret" + numbers, x.regret(sort), model.regret(sort)); break;
      case 9: due("time" + numbers, x.time(lane, i), model.time(lane, i)); break;
      case 10: due("all", x.all(), model.all()); break;
      default:
        int n = random.nextInt(4) == 0 ? of(1, 60) : of(1, 5);
        due("minutes(" + n + ")", x.minutes(n), model.minutes(n));
    }
  }

  private void callOfChanges(int which) {
    int lane = lane();
    int i = place(lane);
    int other = lane();
    int what = of(0, 1);
    int c = random.nextBoolean() ? of(0, 99) : of(0, 9);
    int n = of(1, 60);
    String numbers = "(" + lane + ", " + i + ", " + other + ", " + what + ", " + c + ", " + n + ")";
    switch (which) {
      case 12:
      case 13:
      case 14: due("change" + numbers, x.change(lane, i, other, what), model.change(lane, i, other, what)); break;
      case 15:
      case 16: due("changes" + numbers, x.changes(lane, i, other), model.changes(lane, i, other)); break;
      case 17: due("paysMost" + numbers, x.paysMost(c), model.paysMost(c)); break;
      case 18: due("rests" + numbers, x.rests(c, what), model.rests(c, what)); break;
      case 19:
      case 20: due("least", x.least(), model.least()); break;
      case 21: due("oneLine", x.oneLine(), model.oneLine()); break;
      case 22:
      case 23: due("beside" + numbers, x.beside(lane, other, n), model.beside(lane, other, n)); break;
      case 24: giveSorts(); break;
      default: comers(shelf());
    }
  }

  private void callOfNews(int which) {
    int d = of(-99, 99);
    int g = of(0, 5);
    int h = of(0, 20);
    int n = of(0, 60);
    int sort = of(0, 3);
    int c = of(0, 99);
    int z = random.nextInt();
    int what = of(0, 1);
    String numbers = "(" + d + ", " + g + ", " + h + ", " + n + ", " + sort + ", " + c + ", " + z + ", " + what + ")";
    switch (which) {
      case 26: due("advice" + numbers, x.advice(sort, c), model.advice(sort, c)); break;
      case 27: due("news" + numbers, x.news(d, g, h, n), model.news(d, g, h, n)); break;
      case 28: due("grows" + numbers, x.grows(d, g, h), model.grows(d, g, h)); break;
      case 29: due("other" + numbers, x.other(sort, n, g), model.other(sort, n, g)); break;
      case 30: due("other" + numbers, x.other(sort, of999(n), of999(g)), model.other(sort, of999(n), of999(g))); break;
      case 31:
      case 32:
        int cars = of(1, 30);
        due("seeded" + cars + numbers, x.seeded(cars, z, what), model.seeded(cars, z, what));
        break;
      case 33: giveNumbers(); break;
      case 34: due("image", x.image(), model.image()); break;
      case 35: due("restore", x.restore(), model.restore()); break;
      default: due("count" + numbers, x.count(sort + what), model.count(sort + what));
    }
  }

  private static int of999(int n) {
    return n == 60 ? 1000 : n == 5 ? 999 : n;
  }

  private void callOfShelves(int which) {
    int d = shelf();
    int e = shelf();
    int i = of(0, 9);
    int j = of(0, 9);
    int n = random.nextInt(4) == 0 ? of(0, 100) : of(0, 9);
    int v = random.nextBoolean() ? random.nextInt() : of(-128, 127);
    String numbers = "(" + d + ", " + e + ", " + i + ", " + j + ", " + n + ", " + v + ")";
    switch (which) {
      case 38:
        int lane = lane();
        int what = random.nextInt(6) == 0 ? of(0, 1) : 1;
        due("keep" + numbers + lane, x.keep(d, what, lane), model.keep(d, what, lane));
        break;
      case 39:
        int sort = of(0, 2);
        due("row" + numbers + sort, x.row(d, sort, n), model.row(d, sort, n));
        break;
      case 40: due("put" + numbers, x.put(d, i, v), model.put(d, i, v)); break;
      case 41:
        made++;
        Check.due("element" + numbers, Check.element(x, d, i), model.element(d, i));
        break;
      case 42:
      case 43: due("copy" + numbers, x.copy(d, i, e, j, n), model.copy(d, i, e, j, n)); break;
      case 44: due("toll" + numbers, x.toll(d), model.toll(d)); break;
      case 45: due("toss" + numbers, x.toss(d), model.toss(d)); break;
      case 46: due("border" + numbers, x.border(d), model.border(d)); break;
      default:
        if (random.nextInt(3) == 0) {
          giveText(random.nextInt(8), text(1 + random.nextInt(4)));
        }
    }
  }
}
