import java.util.ArrayList;
import java.util.List;
import java.util.regex.Matcher;
import java.util.regex.Pattern;

/**
 * The document once more, written apart from the class and in other ways: times are found by letting
 * minutes go by, texts are read by patterns, ways are tried out one inside the other.
 */
final class Model {
  private static final int FAR = -1000000000;
  private static final Pattern BORDER =
      Pattern.compile("(?:l[0-9][0-9][0-9]*;|c[0-9][0-9];|m(?:0|[1-9][0-9]?);)+");

  private static final class Lane {
    final int number;
    final int kind;
    final int figure;
    final List<Integer> cars = new ArrayList<>();
    int left;
    int over;

    Lane(int number, int kind, int figure) {
      this.number = number;
      this.kind = kind;
      this.figure = figure;
    }

    Lane twin() {
      Lane twin = new Lane(number, kind, figure);
      twin.cars.addAll(cars);
      twin.left = left;
      twin.over = over;
      return twin;
    }

    static int parent(int kind) {
      return new int[] {-1, 0, 0, 2, 0, 2, 1, 0}[kind];
    }

    static int takes(int kind, int figure, int sort) {
      if (kind == 0) {
        return new int[] {2, 3, 5, 8}[sort];
      }
      int above = takes(parent(kind), figure, sort);
      return switch (kind) {
        case 1 -> above - 1;
        case 2 -> 2 * above;
        case 3 -> sort == 3 ? above + figure : above;
        case 5 -> above + 1;
        case 6 -> above / 2 + above % 2;
        case 7 -> above + figure;
        default -> above;
      };
    }

    static int seen(int kind, int figure, int n) {
      if (kind == 0) {
        return n;
      }
      int above = seen(parent(kind), figure, n);
      return switch (kind) {
        case 2 -> above == 0 ? 0 : above - 1;
        case 4 -> above > figure ? figure : above;
        case 5 -> above / 2;
        case 7 -> above / 2 + above % 2;
        default -> above;
      };
    }

    static int toll(int kind, int figure) {
      if (kind == 0) {
        return 4;
      }
      int above = toll(parent(kind), figure);
      return switch (kind) {
        case 1 -> above + figure;
        case 2 -> above - 2;
        case 3 -> 3 * above;
        case 5 -> above + 5;
        case 6 -> 2 * above;
        case 7 -> above - figure;
        default -> above;
      };
    }

    int takes(int sort) {
      return takes(kind, figure, sort);
    }

    boolean open() {
      return kind != 5 || cars.size() < figure;
    }

    boolean choosable() {
      return open() && cars.size() < 8;
    }

    int seen() {
      return seen(kind, figure, cars.size());
    }

    int seems() {
      return cars.subList(0, seen()).stream().mapToInt(sort -> takes(0, 0, sort)).sum();
    }

    void comeIn(int sort) {
      cars.add(sort);
      if (cars.size() == 1) {
        left = takes(sort);
      }
    }

    boolean minute() {
      if (cars.isEmpty() || --left > 0) {
        return false;
      }
      cars.remove(0);
      over++;
      left = cars.isEmpty() ? 0 : takes(cars.get(0));
      return true;
    }

    /** The minutes at which each of its cars is over. */
    List<Integer> times() {
      Lane twin = twin();
      List<Integer> times = new ArrayList<>();
      for (int minute = 1; !twin.cars.isEmpty(); minute++) {
        if (twin.minute()) {
          times.add(minute);
        }
      }
      return times;
    }

    int waits() {
      List<Integer> times = times();
      return times.isEmpty() ? 0 : times.get(times.size() - 1);
    }

    int timeOfNext(int sort) {
      Lane twin = twin();
      twin.comeIn(sort);
      return twin.waits();
    }
  }

  private static final class Row {
    final int sort;
    final long[] values;

    Row(int sort, int n) {
      this.sort = sort;
      this.values = new long[n];
    }
  }

  private List<Lane> lanes = new ArrayList<>();
  private int clock;
  private int passed;
  private Model image;
  private Object[] shelves = new Object[8];

  private Model twin() {
    Model twin = new Model();
    twin.takeFrom(this);
    return twin;
  }

  private void takeFrom(Model from) {
    lanes = new ArrayList<>();
    for (Lane lane : from.lanes) {
      lanes.add(lane.twin());
    }
    clock = from.clock;
    passed = from.passed;
  }

  private boolean lane(int lane) {
    return 0 <= lane && lane < lanes.size();
  }

  private boolean place(int lane, int i) {
    return lane(lane) && 0 <= i && i < lanes.get(lane).cars.size();
  }

  private static boolean in(int number, int from, int to) {
    return from <= number && number <= to;
  }

  int border(int d) {
    int refusal = bytes(d);
    if (refusal != 0) {
      return refusal;
    }
    StringBuilder signs = new StringBuilder();
    for (long v : ((Row) shelves[d]).values) {
      signs.append((char) (v & 255));
    }
    String text = signs.toString();
    for (int n = 1; n <= text.length(); n++) {
      Matcher matcher = BORDER.matcher(text.substring(0, n));
      if (!matcher.matches() && !matcher.hitEnd()) {
        return -1000 - (n - 1);
      }
    }
    if (!BORDER.matcher(text).matches()) {
      return -1000 - text.length();
    }
    Model twin = twin();
    int place = 0;
    String[] statements = text.split(";");
    for (String statement : statements) {
      if (!twin.statement(statement)) {
        return -2000 - place;
      }
      place += statement.length() + 1;
    }
    takeFrom(twin);
    return statements.length;
  }

  private boolean statement(String statement) {
    String digits = statement.substring(1);
    if (statement.charAt(0) == 'm') {
      minute(Integer.parseInt(digits));
      return true;
    }
    if (statement.charAt(0) == 'c') {
      int lane = digits.charAt(0) - '0';
      int sort = digits.charAt(1) - '0';
      if (!lane(lane) || sort > 3 || lanes.get(lane).cars.size() == 8) {
        return false;
      }
      lanes.get(lane).comeIn(sort);
      return true;
    }
    if (lanes.size() == 5 || !digits.matches("[0-7][0-9][0-3]{0,8}")) {
      return false;
    }
    Lane lane = new Lane(lanes.size(), digits.charAt(0) - '0', digits.charAt(1) - '0');
    digits.substring(2).chars().forEach(digit -> lane.comeIn(digit - '0'));
    lanes.add(lane);
    return true;
  }

  private int minute(int n) {
    int went = 0;
    for (int i = 0; i < n; i++) {
      clock++;
      for (Lane lane : lanes) {
        if (lane.minute()) {
          went++;
        }
      }
    }
    passed += went;
    return went;
  }

  int lane(int lane, int what) {
    if (!lane(lane)) {
      return -1;
    }
    Lane l = lanes.get(lane);
    return switch (what) {
      case 0 -> l.kind;
      case 1 -> l.figure;
      case 2 -> l.cars.size();
      case 3 -> l.left;
      case 4 -> l.waits();
      case 5 -> l.seen();
      case 6 -> l.seems();
      case 7 -> l.open() ? 1 : 0;
      case 8 -> l.over;
      default -> -1;
    };
  }

  int car(int lane, int i) {
    return place(lane, i) ? lanes.get(lane).cars.get(i) : -1;
  }

  int takes(int lane, int sort) {
    return lane(lane) && in(sort, 0, 3) ? lanes.get(lane).takes(sort) : -1;
  }

  int comes(int lane, int sort) {
    if (!lane(lane) || !in(sort, 0, 3)) {
      return -1;
    }
    Lane l = lanes.get(lane);
    if (!l.open()) {
      return -3;
    }
    if (l.cars.size() >= 8) {
      return -2;
    }
    l.comeIn(sort);
    return l.waits();
  }

  int minutes(int n) {
    return in(n, 1, 60) ? minute(n) : -1;
  }

  int which(int sort) {
    if (!in(sort, 0, 3)) {
      return -1;
    }
    if (lanes.stream().noneMatch(Lane::choosable)) {
      return -4;
    }
    return lanes.stream().filter(Lane::choosable).mapToInt(l -> 10 * l.seems() + l.number).min().getAsInt() % 10;
  }

  int best(int sort) {
    if (!in(sort, 0, 3)) {
      return -1;
    }
    if (lanes.stream().noneMatch(Lane::choosable)) {
      return -4;
    }
    return lanes.stream().filter(Lane::choosable).mapToInt(l -> 10 * l.timeOfNext(sort) + l.number).min().getAsInt() % 10;
  }

  int regret(int sort) {
    if (!in(sort, 0, 3)) {
      return -1;
    }
    int which = which(sort);
    return which < 0 ? -4 : lanes.get(which).timeOfNext(sort) - lanes.get(best(sort)).timeOfNext(sort);
  }

  int time(int lane, int i) {
    return place(lane, i) ? lanes.get(lane).times().get(i) : -1;
  }

  int all() {
    int sum = 0;
    for (Lane lane : lanes) {
      for (int time : lane.times()) {
        sum += time;
      }
    }
    return sum;
  }

  private int changeRefusal(int lane, int i, int other) {
    if (!place(lane, i) || i == 0 || !lane(other) || lane == other) {
      return FAR - 1;
    }
    if (lanes.get(other).cars.size() >= 8) {
      return FAR - 2;
    }
    return lanes.get(other).open() ? 0 : FAR - 3;
  }

  int change(int lane, int i, int other, int what) {
    if (!in(what, 0, 1)) {
      return FAR - 1;
    }
    int refusal = changeRefusal(lane, i, other);
    if (refusal != 0) {
      return refusal;
    }
    Model twin = twin();
    twin.changes(lane, i, other);
    if (what == 1) {
      return all() - twin.all();
    }
    return time(lane, i) - twin.lanes.get(other).waits();
  }

  int changes(int lane, int i, int other) {
    int refusal = changeRefusal(lane, i, other);
    if (refusal != 0) {
      return refusal;
    }
    int before = all();
    lanes.get(other).comeIn(lanes.get(lane).cars.remove(i));
    return before - all();
  }

  int paysMost(int c) {
    if (!in(c, 0, 99)) {
      return -1;
    }
    int greatest = c;
    int found = -4;
    for (int number = 0; number < 500; number++) {
      int gain = change(number / 100, number / 10 % 10, number % 10, 0);
      if (gain > greatest) {
        greatest = gain;
        found = number;
      }
    }
    return found;
  }

  int rests(int c, int what) {
    if (!in(c, 0, 99) || !in(what, 0, 1)) {
      return -1;
    }
    Model twin = twin();
    int made = 0;
    for (; made < 40; made++) {
      int number = twin.paysMost(c);
      if (number < 0) {
        break;
      }
      twin.changes(number / 100, number / 10 % 10, number % 10);
    }
    return what == 0 ? made : twin.all();
  }

  private List<Integer> takeLine() {
    List<Integer> line = new ArrayList<>();
    for (Lane lane : lanes) {
      while (lane.cars.size() > 1) {
        line.add(lane.cars.remove(1));
      }
    }
    return line;
  }

  int least() {
    Model twin = twin();
    List<Integer> line = twin.takeLine();
    long places = lanes.stream().filter(l -> l.kind != 5).count();
    if (line.size() > 6 || places > 3 || (!line.isEmpty() && places == 0)) {
      return -4;
    }
    return twin.leastOf(line, 0);
  }

  private int leastOf(List<Integer> line, int from) {
    if (from == line.size()) {
      return all();
    }
    int least = Integer.MAX_VALUE;
    for (int k = 0; k < lanes.size(); k++) {
      if (lanes.get(k).kind != 5) {
        Model twin = twin();
        twin.lanes.get(k).comeIn(line.get(from));
        least = Math.min(least, twin.leastOf(line, from + 1));
      }
    }
    return least;
  }

  int oneLine() {
    if (lanes.isEmpty()) {
      return -4;
    }
    Model twin = twin();
    List<Integer> line = twin.takeLine();
    int sum = 0;
    for (int minute = 0; minute < 10000; minute++) {
      for (Lane lane : twin.lanes) {
        if (lane.cars.isEmpty() && !line.isEmpty()) {
          lane.comeIn(line.remove(0));
        }
      }
      sum += (minute + 1) * twin.minute(1);
    }
    return sum;
  }

  int beside(int lane, int other, int n) {
    if (!lane(lane) || !lane(other) || lane == other || !in(n, 1, 60)) {
      return FAR - 1;
    }
    Model twin = twin();
    twin.minute(n);
    int went = twin.lanes.get(lane).over - lanes.get(lane).over;
    return twin.lanes.get(other).over - lanes.get(other).over - went;
  }

  private int bytes(int d) {
    if (!in(d, 0, 7)) {
      return -1;
    }
    if (shelves[d] == null) {
      return -11;
    }
    return shelves[d] instanceof Row row && row.sort == 0 ? 0 : -12;
  }

  private int sorts(int d) {
    int refusal = bytes(d);
    if (refusal != 0) {
      return refusal;
    }
    long[] values = ((Row) shelves[d]).values;
    for (long v : values) {
      if (v < 0 || v > 3) {
        return -13;
      }
    }
    return values.length > 20 ? -13 : 0;
  }

  int comers(int d, int m, int rule, int what) {
    if (!in(m, 0, 9) || !in(rule, 0, 2) || !in(what, 0, 1)) {
      return -1;
    }
    int refusal = sorts(d);
    if (refusal != 0) {
      return refusal;
    }
    Model twin = twin();
    int came = 0;
    int sum = 0;
    int number = 0;
    for (long v : ((Row) shelves[d]).values) {
      int sort = (int) v;
      if (number > 0 && m > 0) {
        twin.minutes(m);
      }
      int turn = lanes.isEmpty() ? -4 : number % lanes.size();
      int time = twin.comes(rule == 0 ? twin.which(sort) : rule == 1 ? twin.best(sort) : turn, sort);
      if (time > 0) {
        came++;
        sum += time;
      }
      number++;
    }
    return what == 0 ? came : sum;
  }

  int opens(int d, int m, int n) {
    if (!in(m, 0, 9) || !in(n, 0, 99)) {
      return -1;
    }
    int refusal = sorts(d);
    if (refusal != 0) {
      return refusal;
    }
    Model twin = twin();
    boolean first = true;
    for (long v : ((Row) shelves[d]).values) {
      int sort = (int) v;
      if (!first) {
        twin.minute(m);
      }
      first = false;
      int best = twin.best(sort);
      if ((best == -4 || twin.lanes.get(best).timeOfNext(sort) > n) && twin.lanes.size() < 5) {
        twin.lanes.add(new Lane(twin.lanes.size(), 6, 0));
      }
      twin.comes(twin.which(sort), sort);
    }
    return twin.lanes.size() - lanes.size();
  }

  int bySorts(int d, int what) {
    if (!in(what, 0, 1)) {
      return -1;
    }
    int refusal = sorts(d);
    if (refusal != 0) {
      return refusal;
    }
    int least = Integer.MAX_VALUE;
    int digits = -4;
    for (int w = 0; w < 10000; w++) {
      int[] told = {w % 10, w / 10 % 10, w / 100 % 10, w / 1000};
      if (lane(told[0]) && lane(told[1]) && lane(told[2]) && lane(told[3])) {
        int sum = 0;
        for (Lane lane : lanes) {
          int end = 0;
          for (long v : ((Row) shelves[d]).values) {
            if (told[(int) v] == lane.number) {
              end += lane.takes((int) v);
              sum += end;
            }
          }
        }
        if (sum < least) {
          least = sum;
          digits = w;
        }
      }
    }
    return lanes.isEmpty() ? -4 : what == 0 ? digits : least;
  }

  int advice(int sort, int c) {
    if (!in(sort, 0, 3) || !in(c, 0, 99)) {
      return -1;
    }
    int regret = regret(sort);
    return regret == -4 ? -4 : regret * c;
  }

  private static List<Integer> swings(int d, int g, int h) {
    List<Integer> all = new ArrayList<>(List.of(d));
    for (int i = 0; i < 60; i++) {
      int told = i - g < 0 ? d : all.get(i - g);
      int over = Math.abs(told) * h / 10 * Integer.signum(told);
      int next = all.get(i) - over - over;
      all.add(next > 9999 ? 9999 : next < -9999 ? -9999 : next);
    }
    return all;
  }

  int news(int d, int g, int h, int n) {
    if (!in(d, -99, 99) || !in(g, 0, 5) || !in(h, 0, 20) || !in(n, 0, 60)) {
      return FAR - 1;
    }
    return swings(d, g, h).get(n);
  }

  int grows(int d, int g, int h) {
    if (!in(d, -99, 99) || !in(g, 0, 5) || !in(h, 0, 20)) {
      return -1;
    }
    List<Integer> all = swings(d, g, h);
    int early = all.subList(1, 31).stream().mapToInt(Math::abs).max().getAsInt();
    int late = all.subList(31, 61).stream().mapToInt(Math::abs).max().getAsInt();
    return late > early ? 1 : 0;
  }

  int other(int sort, int w, int t) {
    if (!in(sort, 0, 3) || !in(w, 0, 999) || !in(t, 0, 999)) {
      return -1;
    }
    int best = best(sort);
    return best == -4 || w + t < lanes.get(best).timeOfNext(sort) ? 1 : 0;
  }

  int seeded(int n, int z, int what) {
    if (!in(n, 1, 30) || !in(what, 0, 1)) {
      return -1;
    }
    Model twin = twin();
    long seed = z & 0xffffffffL;
    int came = 0;
    for (int i = 0; i < n; i++) {
      seed = (seed * 1103515245L + 12345L) & 0xffffffffL;
      twin.minute((int) (seed % 2147483648L / 65536L % 4L));
      seed = (seed * 1103515245L + 12345L) & 0xffffffffL;
      int sort = (int) (seed % 2147483648L / 65536L % 4L);
      came += twin.comes(twin.which(sort), sort) > 0 ? 1 : 0;
    }
    return what == 0 ? came : twin.count(1);
  }

  int judge(int lane, int d) {
    if (!lane(lane) || !in(d, 0, 7)) {
      return -1;
    }
    if (shelves[d] == null) {
      return -11;
    }
    if (!(shelves[d] instanceof Row row)) {
      return -12;
    }
    long skipped = new long[] {Byte.MIN_VALUE, Short.MIN_VALUE, Integer.MIN_VALUE}[row.sort];
    List<Integer> times = lanes.get(lane).times();
    for (int i = 0; i < row.values.length; i++) {
      int minute = i + 1;
      long there = times.stream().filter(time -> time > minute).count();
      if (row.values[i] != skipped && row.values[i] != there) {
        return i;
      }
    }
    return -4;
  }

  int image() {
    image = twin();
    return clock;
  }

  int restore() {
    if (image == null) {
      return -3;
    }
    takeFrom(image);
    return clock;
  }

  int count(int what) {
    return switch (what) {
      case 0 -> lanes.size();
      case 1 -> lanes.stream().mapToInt(l -> l.cars.size()).sum();
      case 2 -> clock;
      case 3 -> passed;
      case 4 -> (int) lanes.stream().filter(Lane::choosable).count();
      case 5 -> lanes.stream().mapToInt(Lane::waits).max().orElse(0);
      default -> -1;
    };
  }

  int keep(int d, int what, int k) {
    if (!in(d, 0, 7) || !in(what, 0, 1) || (what == 1 && !lane(k))) {
      return -1;
    }
    shelves[d] = what == 0 ? null : lanes.get(k);
    return 0;
  }

  int row(int d, int sort, int n) {
    if (!in(d, 0, 7) || !in(sort, 0, 2) || n > 100) {
      return -1;
    }
    if (n < 0) {
      return -14;
    }
    shelves[d] = new Row(sort, n);
    return 0;
  }

  int put(int d, int i, int v) {
    if (!in(d, 0, 7)) {
      return -1;
    }
    if (shelves[d] == null) {
      return -11;
    }
    if (!(shelves[d] instanceof Row row)) {
      return -12;
    }
    if (!in(i, 0, row.values.length - 1)) {
      return -13;
    }
    row.values[i] = row.sort == 0 ? (byte) v : row.sort == 1 ? (short) v : v;
    return 0;
  }

  String element(int d, int i) {
    if (!in(d, 0, 7)) {
      return "IllegalArgumentException";
    }
    if (shelves[d] instanceof Row row && in(i, 0, row.values.length - 1)) {
      return Long.toString(row.values[i]);
    }
    return "IllegalStateException";
  }

  int copy(int d, int i, int e, int j, int n) {
    if (!in(d, 0, 7) || !in(e, 0, 7)) {
      return -1;
    }
    if (shelves[d] == null || shelves[e] == null) {
      return -11;
    }
    if (!(shelves[d] instanceof Row from) || !(shelves[e] instanceof Row to) || from.sort != to.sort) {
      return -12;
    }
    if (i < 0 || j < 0 || n < 0 || (long) i + n > from.values.length || (long) j + n > to.values.length) {
      return -13;
    }
    long[] parts = java.util.Arrays.copyOfRange(from.values, i, i + n);
    for (int k = 0; k < n; k++) {
      to.values[j + k] = parts[k];
    }
    return n;
  }

  private int kept(int d) {
    if (!in(d, 0, 7)) {
      return -1;
    }
    if (shelves[d] == null) {
      return -11;
    }
    return shelves[d] instanceof Lane ? 0 : -12;
  }

  int toll(int d) {
    int refusal = kept(d);
    return refusal != 0 ? refusal : Lane.toll(((Lane) shelves[d]).kind, ((Lane) shelves[d]).figure);
  }

  int toss(int d) {
    int refusal = kept(d);
    if (refusal != 0) {
      return refusal;
    }
    Lane lane = (Lane) shelves[d];
    if (lane.kind == 7 || lane.figure == 0) {
      return -15;
    }
    return lane.kind == 6 ? 200 + toll(d) : lane.kind == 3 ? 100 + lane.number : lane.number;
  }
}
