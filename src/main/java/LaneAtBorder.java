/**
 * Lanes at a border, with cars one behind the other. Words in capitals are the document's.
 *
 * <p>All rows are made by the constructors and used again, since the objects of a whole run share
 * one room.
 */
public final class LaneAtBorder {
  private static final int MOST_LANES = 5;
  private static final int MOST_CARS = 8;
  private static final int SORTS = 4;
  private static final int SHELVES = 8;
  private static final int MOST_ELEMENTS = 100;
  private static final int MOST_COMERS = 20;
  private static final int MOST_TIMES = 60;
  private static final int MOST_SWING = 9999;

  private static final int LANE = 0;
  private static final int QUICK = 1;
  private static final int SLOW = 2;
  private static final int HELD = 3;
  private static final int HIDDEN = 4;
  private static final int SHUT = 5;
  private static final int NEW = 6;
  private static final int FLED = 7;

  private static final int BYTES = 0;
  private static final int SHORTS = 1;
  private static final int INTS = 2;

  private static final int NO_SUCH = -1;
  private static final int NO_ROOM = -2;
  private static final int NOT_NOW = -3;
  private static final int NONE = -4;
  private static final int NOTHING_HELD = -11;
  private static final int OTHER_KIND = -12;
  private static final int NO_PLACE = -13;
  private static final int SIZE_BELOW_0 = -14;
  private static final int NO_FAILURE = -15;

  /** Added to a refusal where the answers themselves may be below 0. */
  private static final int FAR_BELOW = -1000000000;

  private static final int RULE_WHICH = 0;
  private static final int RULE_BEST = 1;
  private static final int RULE_TURN = 2;

  private Crossing now = new Crossing();
  /** Where things are tried out; what it holds between two calls means nothing. */
  private Crossing mind = new Crossing();
  private final Crossing taken = new Crossing();
  private boolean isTaken = false;
  private final Shelf[] shelves = new Shelf[SHELVES];

  /** For each LANE the minute at which its last CAR so far is over. */
  private final int[] ends = new int[MOST_LANES];
  private final int[] line = new int[MOST_LANES * MOST_CARS];
  private final int[] usable = new int[MOST_LANES];
  private final int[] told = new int[SORTS];
  private final int[] swing = new int[MOST_TIMES + 1];

  public LaneAtBorder() {
    for (int d = 0; d < SHELVES; d++) {
      shelves[d] = new Shelf();
    }
  }

  // ---- borders

  public int border(int d) {
    int refusal = bytesRefusal(d);
    if (refusal != 0) {
      return refusal;
    }
    Shelf text = shelves[d];
    int bad = BorderText.firstBadByte(text);
    if (bad >= 0) {
      return -1000 - bad;
    }
    mind.becomeLike(now);
    int statements = 0;
    int begin = 0;
    for (int place = 0; place < text.size; place++) {
      if (text.values[place] == ';') {
        if (!BorderText.carryOut(text, begin, place, mind)) {
          return -2000 - begin;
        }
        statements++;
        begin = place + 1;
      }
    }
    Crossing old = now;
    now = mind;
    mind = old;
    return statements;
  }

  public int lane(int lane, int what) {
    if (!now.has(lane)) {
      return NO_SUCH;
    }
    Queue queue = now.queues[lane];
    switch (what) {
      case 0: return queue.kind;
      case 1: return queue.figure;
      case 2: return queue.cars;
      case 3: return queue.left;
      case 4: return queue.waitNow();
      case 5: return queue.seenCars();
      case 6: return queue.seemsNow();
      case 7: return queue.isOpen() ? 1 : 0;
      case 8: return queue.over;
      default: return NO_SUCH;
    }
  }

  public int car(int lane, int i) {
    return now.hasCar(lane, i) ? now.queues[lane].sorts[i] : NO_SUCH;
  }

  public int takes(int lane, int sort) {
    return now.has(lane) && isSort(sort) ? now.queues[lane].needs(sort) : NO_SUCH;
  }

  // ---- minutes

  public int comes(int lane, int sort) {
    if (!now.has(lane) || !isSort(sort)) {
      return NO_SUCH;
    }
    Queue queue = now.queues[lane];
    if (!queue.isOpen()) {
      return NOT_NOW;
    }
    if (!queue.hasRoom()) {
      return NO_ROOM;
    }
    int time = queue.timeOfNext(sort);
    queue.comeIn(sort);
    return time;
  }

  public int minutes(int n) {
    return n < 1 || n > 60 ? NO_SUCH : now.goBy(n);
  }

  // ---- which lane

  public int which(int sort) {
    return isSort(sort) ? now.seemingLane() : NO_SUCH;
  }

  public int best(int sort) {
    return isSort(sort) ? now.quickestLane(sort) : NO_SUCH;
  }

  public int regret(int sort) {
    return isSort(sort) ? regretTimes(sort, 1) : NO_SUCH;
  }

  public int time(int lane, int i) {
    return now.hasCar(lane, i) ? now.queues[lane].timeAt(i) : NO_SUCH;
  }

  public int all() {
    return now.timesTogether();
  }

  // ---- changes

  public int change(int lane, int i, int other, int what) {
    if (what < 0 || what > 1) {
      return FAR_BELOW + NO_SUCH;
    }
    int refusal = changeRefusal(lane, i, other);
    if (refusal != 0) {
      return refusal;
    }
    return what == 0 ? now.gain(lane, i, other) : brings(lane, i, other);
  }

  public int changes(int lane, int i, int other) {
    int refusal = changeRefusal(lane, i, other);
    if (refusal != 0) {
      return refusal;
    }
    int before = now.timesTogether();
    now.move(lane, i, other);
    return before - now.timesTogether();
  }

  public int paysMost(int c) {
    return c < 0 || c > 99 ? NO_SUCH : now.greatestGain(c);
  }

  public int rests(int c, int what) {
    if (c < 0 || c > 99 || what < 0 || what > 1) {
      return NO_SUCH;
    }
    mind.becomeLike(now);
    int made = 0;
    int next = mind.greatestGain(c);
    while (made < 40 && next >= 0) {
      mind.move(next / 100, next / 10 % 10, next % 10);
      made++;
      next = mind.greatestGain(c);
    }
    return what == 0 ? made : mind.timesTogether();
  }

  public int least() {
    int cars = gatherLine();
    int lanes = gatherUsable();
    if (cars > 6 || lanes > 3 || (cars > 0 && lanes == 0)) {
      return NONE;
    }
    int ways = power(lanes, cars);
    int least = Integer.MAX_VALUE;
    for (int way = 0; way < ways; way++) {
      least = Math.min(least, partedSum(way, cars, lanes));
    }
    return least;
  }

  public int oneLine() {
    if (now.lanes == 0) {
      return NONE;
    }
    int cars = gatherLine();
    int sum = beginWithFirstOnes();
    for (int c = 0; c < cars; c++) {
      sum += goTo(firstFree(), line[c]);
    }
    return sum;
  }

  public int beside(int lane, int other, int n) {
    if (!now.has(lane) || !now.has(other) || lane == other || n < 1 || n > 60) {
      return FAR_BELOW + NO_SUCH;
    }
    mind.becomeLike(now);
    int sum = 0;
    for (int minute = 0; minute < n; minute++) {
      boolean here = mind.queues[lane].minuteGoes();
      boolean there = mind.queues[other].minuteGoes();
      if (there && !here) {
        sum++;
      } else if (here && !there) {
        sum--;
      }
    }
    return sum;
  }

  // ---- cars that come

  public int comers(int d, int m, int rule, int what) {
    if (m < 0 || m > 9 || rule < RULE_WHICH || rule > RULE_TURN || what < 0 || what > 1) {
      return NO_SUCH;
    }
    int refusal = sortsRefusal(d);
    if (refusal != 0) {
      return refusal;
    }
    Shelf row = shelves[d];
    mind.becomeLike(now);
    int came = 0;
    int times = 0;
    for (int c = 0; c < row.size; c++) {
      if (c > 0) {
        mind.goBy(m);
      }
      int lane = chosen(rule, c, row.values[c]);
      if (lane >= 0) {
        times += mind.queues[lane].timeOfNext(row.values[c]);
        mind.queues[lane].comeIn(row.values[c]);
        came++;
      }
    }
    return what == 0 ? came : times;
  }

  public int opens(int d, int m, int n) {
    if (m < 0 || m > 9 || n < 0 || n > 99) {
      return NO_SUCH;
    }
    int refusal = sortsRefusal(d);
    if (refusal != 0) {
      return refusal;
    }
    Shelf row = shelves[d];
    mind.becomeLike(now);
    int opened = 0;
    for (int c = 0; c < row.size; c++) {
      if (c > 0) {
        mind.goBy(m);
      }
      if (mind.leastTime(row.values[c]) > n && mind.addLane(NEW, 0)) {
        opened++;
      }
      int lane = mind.seemingLane();
      if (lane >= 0) {
        mind.queues[lane].comeIn(row.values[c]);
      }
    }
    return opened;
  }

  public int bySorts(int d, int what) {
    if (what < 0 || what > 1) {
      return NO_SUCH;
    }
    int refusal = sortsRefusal(d);
    if (refusal != 0) {
      return refusal;
    }
    if (now.lanes == 0) {
      return NONE;
    }
    int ways = power(now.lanes, SORTS);
    int leastWay = 0;
    int leastSum = Integer.MAX_VALUE;
    for (int way = 0; way < ways; way++) {
      int sum = toldSum(way, shelves[d]);
      if (sum < leastSum) {
        leastSum = sum;
        leastWay = way;
      }
    }
    return what == 0 ? asDigits(leastWay) : leastSum;
  }

  public int advice(int sort, int c) {
    return isSort(sort) && c >= 0 && c <= 99 ? regretTimes(sort, c) : NO_SUCH;
  }

  // ---- news, the other crossing, seeds

  public int news(int d, int g, int h, int n) {
    if (!areNews(d, g, h) || n < 0 || n > MOST_TIMES) {
      return FAR_BELOW + NO_SUCH;
    }
    swingFrom(d, g, h);
    return swing[n];
  }

  public int grows(int d, int g, int h) {
    if (!areNews(d, g, h)) {
      return NO_SUCH;
    }
    swingFrom(d, g, h);
    return widestSwing(31, 60) > widestSwing(1, 30) ? 1 : 0;
  }

  public int other(int sort, int w, int t) {
    if (!isSort(sort) || w < 0 || w > 999 || t < 0 || t > 999) {
      return NO_SUCH;
    }
    return w + t < now.leastTime(sort) ? 1 : 0;
  }

  public int seeded(int n, int z, int what) {
    if (n < 1 || n > 30 || what < 0 || what > 1) {
      return NO_SUCH;
    }
    mind.becomeLike(now);
    int seed = z;
    int came = 0;
    for (int c = 0; c < n; c++) {
      seed = nextSeed(seed);
      mind.goBy(draw(seed, 4));
      seed = nextSeed(seed);
      int lane = mind.seemingLane();
      if (lane >= 0) {
        mind.queues[lane].comeIn(draw(seed, SORTS));
        came++;
      }
    }
    return what == 0 ? came : mind.carsTogether();
  }

  public int judge(int lane, int d) {
    if (!now.has(lane)) {
      return NO_SUCH;
    }
    int refusal = rowRefusal(d);
    if (refusal != 0) {
      return refusal;
    }
    Shelf row = shelves[d];
    mind.becomeLike(now);
    Queue queue = mind.queues[lane];
    for (int i = 0; i < row.size; i++) {
      queue.minuteGoes();
      if (row.values[i] != row.leastNumber() && row.values[i] != queue.cars) {
        return i;
      }
    }
    return NONE;
  }

  // ---- the image, what is told

  public int image() {
    taken.becomeLike(now);
    isTaken = true;
    return now.clock;
  }

  public int restore() {
    if (!isTaken) {
      return NOT_NOW;
    }
    now.becomeLike(taken);
    return now.clock;
  }

  public int count(int what) {
    switch (what) {
      case 0: return now.lanes;
      case 1: return now.carsTogether();
      case 2: return now.clock;
      case 3: return now.passed;
      case 4: return now.lanesToChoose();
      case 5: return now.greatestWait();
      default: return NO_SUCH;
    }
  }

  // ---- shelves

  public int keep(int d, int what, int k) {
    if (!isShelf(d) || what < 0 || what > 1 || (what == 1 && !now.has(k))) {
      return NO_SUCH;
    }
    if (what == 0) {
      shelves[d].holdNothing();
    } else {
      shelves[d].holdLane(k, now.queues[k]);
    }
    return 0;
  }

  public int row(int d, int sort, int n) {
    if (!isShelf(d) || sort < BYTES || sort > INTS || n > MOST_ELEMENTS) {
      return NO_SUCH;
    }
    if (n < 0) {
      return SIZE_BELOW_0;
    }
    shelves[d].holdRow(sort, n);
    return 0;
  }

  public int put(int d, int i, int v) {
    int refusal = rowRefusal(d);
    if (refusal != 0) {
      return refusal;
    }
    if (!shelves[d].hasElement(i)) {
      return NO_PLACE;
    }
    shelves[d].values[i] = shelves[d].lowestBits(v);
    return 0;
  }

  public long element(int d, int i) throws IllegalArgumentException, IllegalStateException {
    if (!isShelf(d)) {
      throw new IllegalArgumentException("no such shelf");
    }
    if (!shelves[d].hasElement(i)) {
      throw new IllegalStateException("no row, or no such place in it");
    }
    return shelves[d].values[i];
  }

  public int copy(int d, int i, int e, int j, int n) {
    if (!isShelf(d) || !isShelf(e)) {
      return NO_SUCH;
    }
    Shelf from = shelves[d];
    Shelf to = shelves[e];
    if (from.holds == Shelf.NOTHING || to.holds == Shelf.NOTHING) {
      return NOTHING_HELD;
    }
    if (from.holds != Shelf.A_ROW || to.holds != Shelf.A_ROW || from.sort != to.sort) {
      return OTHER_KIND;
    }
    if (!from.hasElements(i, n) || !to.hasElements(j, n)) {
      return NO_PLACE;
    }
    System.arraycopy(from.values, i, to.values, j, n);
    return n;
  }

  public int toll(int d) {
    int refusal = keptLaneRefusal(d);
    return refusal != 0 ? refusal : Kinds.toPay(shelves[d].kind, shelves[d].figure);
  }

  public int toss(int d) {
    int refusal = keptLaneRefusal(d);
    if (refusal != 0) {
      return refusal;
    }
    Shelf shelf = shelves[d];
    try {
      Kinds.fail(shelf.kind, shelf.figure);
    } catch (UnsupportedOperationException ofHeld) {
      return shelf.number + 100;
    } catch (IllegalArgumentException ofNew) {
      return 200 + Kinds.toPay(shelf.kind, shelf.figure);
    } catch (IllegalStateException ofAnother) {
      return shelf.number;
    }
    return NO_FAILURE;
  }

  // ---- what is refused

  private static boolean isSort(int sort) {
    return sort >= 0 && sort < SORTS;
  }

  private static boolean isShelf(int d) {
    return d >= 0 && d < SHELVES;
  }

  private static boolean areNews(int d, int g, int h) {
    return d >= -99 && d <= 99 && g >= 0 && g <= 5 && h >= 0 && h <= 20;
  }

  /** 0, or why SHELF d is refused where something of a kind is wanted. */
  private int shelfRefusal(int d, int wanted) {
    if (!isShelf(d)) {
      return NO_SUCH;
    }
    if (shelves[d].holds == Shelf.NOTHING) {
      return NOTHING_HELD;
    }
    return shelves[d].holds == wanted ? 0 : OTHER_KIND;
  }

  private int rowRefusal(int d) {
    return shelfRefusal(d, Shelf.A_ROW);
  }

  private int keptLaneRefusal(int d) {
    return shelfRefusal(d, Shelf.A_LANE);
  }

  private int bytesRefusal(int d) {
    int refusal = rowRefusal(d);
    if (refusal != 0) {
      return refusal;
    }
    return shelves[d].sort == BYTES ? 0 : OTHER_KIND;
  }

  private int sortsRefusal(int d) {
    int refusal = bytesRefusal(d);
    if (refusal != 0) {
      return refusal;
    }
    Shelf row = shelves[d];
    if (row.size > MOST_COMERS) {
      return NO_PLACE;
    }
    for (int i = 0; i < row.size; i++) {
      if (!isSort(row.values[i])) {
        return NO_PLACE;
      }
    }
    return 0;
  }

  private int changeRefusal(int lane, int i, int other) {
    if (i < 1 || !now.hasCar(lane, i) || !now.has(other) || lane == other) {
      return FAR_BELOW + NO_SUCH;
    }
    if (!now.queues[other].hasRoom()) {
      return FAR_BELOW + NO_ROOM;
    }
    return now.queues[other].isOpen() ? 0 : FAR_BELOW + NOT_NOW;
  }

  // ---- what is found out by trying

  private int regretTimes(int sort, int pence) {
    int lane = now.seemingLane();
    if (lane < 0) {
      return NONE;
    }
    return (now.queues[lane].timeOfNext(sort) - now.leastTime(sort)) * pence;
  }

  private int brings(int lane, int i, int other) {
    mind.becomeLike(now);
    mind.move(lane, i, other);
    return now.timesTogether() - mind.timesTogether();
  }

  /** In mind: the LANE that a comer goes to by a rule; below 0, if there is none for it. */
  private int chosen(int rule, int number, int sort) {
    if (rule == RULE_WHICH) {
      return mind.seemingLane();
    }
    if (rule == RULE_BEST) {
      return mind.quickestLane(sort);
    }
    if (mind.lanes == 0) {
      return NONE;
    }
    int lane = number % mind.lanes;
    return mind.queues[lane].mayBeChosen() ? lane : NONE;
  }

  /** Puts the SORTS of all CARS but the first ones into the line: how many. */
  private int gatherLine() {
    int cars = 0;
    for (int lane = 0; lane < now.lanes; lane++) {
      Queue queue = now.queues[lane];
      for (int i = 1; i < queue.cars; i++) {
        line[cars] = queue.sorts[i];
        cars++;
      }
    }
    return cars;
  }

  /** Gathers the LANES among which LEAST may part CARS: how many. */
  private int gatherUsable() {
    int lanes = 0;
    for (int lane = 0; lane < now.lanes; lane++) {
      if (now.queues[lane].kind != SHUT) {
        usable[lanes] = lane;
        lanes++;
      }
    }
    return lanes;
  }

  /** Each LANE's end becomes that of its first CAR alone: the TIMES of these together. */
  private int beginWithFirstOnes() {
    int sum = 0;
    for (int lane = 0; lane < now.lanes; lane++) {
      ends[lane] = now.queues[lane].left;
      sum += ends[lane];
    }
    return sum;
  }

  /** A CAR goes behind the last one so far of a LANE: its TIME. */
  private int goTo(int lane, int sort) {
    ends[lane] += now.queues[lane].needs(sort);
    return ends[lane];
  }

  private int firstFree() {
    int free = 0;
    for (int lane = 1; lane < now.lanes; lane++) {
      if (ends[lane] < ends[free]) {
        free = lane;
      }
    }
    return free;
  }

  /** ALL, if the line is parted as the digits of a way, to the base of the usable LANES, tell. */
  private int partedSum(int way, int cars, int lanes) {
    int sum = beginWithFirstOnes();
    int rest = way;
    for (int c = 0; c < cars && lanes > 0; c++) {
      sum += goTo(usable[rest % lanes], line[c]);
      rest /= lanes;
    }
    return sum;
  }

  /** The TIMES of a ROW of SORTS, if each SORT goes to the LANE that a way tells it. */
  private int toldSum(int way, Shelf row) {
    tell(way);
    for (int lane = 0; lane < now.lanes; lane++) {
      ends[lane] = 0;
    }
    int sum = 0;
    for (int c = 0; c < row.size; c++) {
      int sort = row.values[c];
      sum += goTo(told[sort], sort);
    }
    return sum;
  }

  /** Each SORT is told a LANE: the digits of a way, to the base of LANES, SORT 0 the lowest. */
  private void tell(int way) {
    int rest = way;
    for (int sort = 0; sort < SORTS && now.lanes > 0; sort++) {
      told[sort] = rest % now.lanes;
      rest /= now.lanes;
    }
  }

  private int asDigits(int way) {
    tell(way);
    int digits = 0;
    for (int sort = SORTS - 1; sort >= 0; sort--) {
      digits = 10 * digits + told[sort];
    }
    return digits;
  }

  private static int power(int base, int exponent) {
    int product = 1;
    for (int i = 0; i < exponent; i++) {
      product *= base;
    }
    return product;
  }

  private void swingFrom(int d, int g, int h) {
    swing[0] = d;
    for (int t = 1; t <= MOST_TIMES; t++) {
      int late = swing[Math.max(0, t - 1 - g)];
      int next = swing[t - 1] - 2 * (late * h / 10);
      swing[t] = Math.max(-MOST_SWING, Math.min(MOST_SWING, next));
    }
  }

  private int widestSwing(int from, int to) {
    int widest = 0;
    for (int t = from; t <= to; t++) {
      widest = Math.max(widest, Math.abs(swing[t]));
    }
    return widest;
  }

  private static int nextSeed(int seed) {
    return seed * 1103515245 + 12345;
  }

  private static int draw(int seed, int below) {
    return below > 0 ? (seed & Integer.MAX_VALUE) / 65536 % below : 0;
  }

  /** What the KINDS tell; one that is under another one goes by that one's number. */
  private static final class Kinds {
    static int minutesFor(int kind, int figure, int sort) {
      int ofLane = laneMinutes(sort);
      int ofQuick = ofLane - 1;
      int ofSlow = 2 * ofLane;
      switch (kind) {
        case QUICK: return ofQuick;
        case SLOW: return ofSlow;
        case HELD: return sort == 3 ? ofSlow + figure : ofSlow;
        case SHUT: return ofSlow + 1;
        case NEW: return (ofQuick + 1) / 2;
        case FLED: return ofLane + figure;
        default: return ofLane;
      }
    }

    static int laneMinutes(int sort) {
      switch (sort) {
        case 0: return 2;
        case 1: return 3;
        case 2: return 5;
        default: return 8;
      }
    }

    static int seenOf(int kind, int figure, int cars) {
      int ofSlow = Math.max(0, cars - 1);
      switch (kind) {
        case SLOW: return ofSlow;
        case HELD: return ofSlow;
        case HIDDEN: return Math.min(cars, figure);
        case SHUT: return ofSlow / 2;
        case FLED: return (cars + 1) / 2;
        default: return cars;
      }
    }

    static boolean letsIn(int kind, int figure, int cars) {
      return kind != SHUT || cars < figure;
    }

    static int toPay(int kind, int figure) {
      int ofLane = 4;
      int ofQuick = ofLane + figure;
      int ofSlow = ofLane - 2;
      switch (kind) {
        case QUICK: return ofQuick;
        case SLOW: return ofSlow;
        case HELD: return 3 * ofSlow;
        case SHUT: return ofSlow + 5;
        case NEW: return 2 * ofQuick;
        case FLED: return ofLane - figure;
        default: return ofLane;
      }
    }

    /** Throws the FAILURE of a LANE; comes back, if it has none. */
    static void fail(int kind, int figure) {
      if (kind == FLED || figure == 0) {
        return;
      }
      if (kind == HELD) {
        throw new UnsupportedOperationException("held");
      }
      if (kind == NEW) {
        throw new IllegalArgumentException("new");
      }
      throw new IllegalStateException("lane");
    }
  }

  /** A LANE with its CARS. */
  private static final class Queue {
    int kind = LANE;
    int figure = 0;
    int cars = 0;
    /** 0 without CARS. */
    int left = 0;
    int over = 0;
    final int[] sorts = new int[MOST_CARS];
    /** What each SORT TAKES here: worked out once, since KIND and FIGURE never change. */
    final int[] needed = new int[SORTS];

    void begin(int newKind, int newFigure) {
      kind = newKind;
      figure = newFigure;
      cars = 0;
      left = 0;
      over = 0;
      for (int sort = 0; sort < SORTS; sort++) {
        needed[sort] = Kinds.minutesFor(newKind, newFigure, sort);
      }
    }

    void becomeLike(Queue like) {
      kind = like.kind;
      figure = like.figure;
      cars = like.cars;
      left = like.left;
      over = like.over;
      System.arraycopy(like.sorts, 0, sorts, 0, MOST_CARS);
      System.arraycopy(like.needed, 0, needed, 0, SORTS);
    }

    int needs(int sort) {
      return sort >= 0 && sort < SORTS ? needed[sort] : 0;
    }

    boolean hasRoom() {
      return cars < MOST_CARS;
    }

    boolean isOpen() {
      return Kinds.letsIn(kind, figure, cars);
    }

    boolean mayBeChosen() {
      return isOpen() && hasRoom();
    }

    int seenCars() {
      return Kinds.seenOf(kind, figure, cars);
    }

    int seemsNow() {
      int seen = Math.min(seenCars(), cars);
      int sum = 0;
      for (int i = 0; i < seen; i++) {
        sum += Kinds.laneMinutes(sorts[i]);
      }
      return sum;
    }

    int waitNow() {
      return timeAt(cars - 1);
    }

    int timeOfNext(int sort) {
      return timeAt(cars - 1) + needs(sort);
    }

    /** The LEFT of the first CAR, and what those behind it TAKE up to a place. */
    int timeAt(int place) {
      int sum = left;
      for (int i = 1; i <= place && i < cars; i++) {
        sum += needs(sorts[i]);
      }
      return sum;
    }

    int timesTogether() {
      int end = left;
      int sum = left;
      for (int i = 1; i < cars; i++) {
        end += needs(sorts[i]);
        sum += end;
      }
      return sum;
    }

    /** A CAR comes in, if there is room. */
    void comeIn(int sort) {
      if (!hasRoom()) {
        return;
      }
      sorts[cars] = sort;
      cars++;
      if (cars == 1) {
        left = needs(sort);
      }
    }

    /** The CAR at a place behind the first one goes out: its SORT. */
    int goOut(int place) {
      int sort = sorts[place];
      closeUp(place);
      return sort;
    }

    private void closeUp(int place) {
      for (int i = place + 1; i < cars; i++) {
        sorts[i - 1] = sorts[i];
      }
      cars--;
    }

    /** Whether a CAR went over in it. */
    boolean minuteGoes() {
      if (cars == 0) {
        return false;
      }
      left--;
      if (left > 0) {
        return false;
      }
      closeUp(0);
      over++;
      left = cars > 0 ? needs(sorts[0]) : 0;
      return true;
    }
  }

  /** All that THE IMAGE holds. */
  private static final class Crossing {
    final Queue[] queues = new Queue[MOST_LANES];
    int lanes = 0;
    int clock = 0;
    int passed = 0;

    Crossing() {
      for (int lane = 0; lane < MOST_LANES; lane++) {
        queues[lane] = new Queue();
      }
    }

    void becomeLike(Crossing like) {
      lanes = like.lanes;
      clock = like.clock;
      passed = like.passed;
      for (int lane = 0; lane < lanes; lane++) {
        queues[lane].becomeLike(like.queues[lane]);
      }
    }

    boolean has(int lane) {
      return lane >= 0 && lane < lanes;
    }

    boolean hasCar(int lane, int place) {
      return has(lane) && place >= 0 && place < queues[lane].cars;
    }

    /** Whether there was room for one LANE more. */
    boolean addLane(int kind, int figure) {
      if (lanes >= MOST_LANES) {
        return false;
      }
      queues[lanes].begin(kind, figure);
      lanes++;
      return true;
    }

    /** How many went over. */
    int goBy(int n) {
      int went = 0;
      for (int minute = 0; minute < n; minute++) {
        for (int lane = 0; lane < lanes; lane++) {
          went += queues[lane].minuteGoes() ? 1 : 0;
        }
      }
      clock += n;
      passed += went;
      return went;
    }

    /** WHICH. */
    int seemingLane() {
      int found = NONE;
      int least = Integer.MAX_VALUE;
      for (int lane = 0; lane < lanes; lane++) {
        int seems = queues[lane].seemsNow();
        if (queues[lane].mayBeChosen() && seems < least) {
          least = seems;
          found = lane;
        }
      }
      return found;
    }

    /** BEST. */
    int quickestLane(int sort) {
      int found = NONE;
      int least = Integer.MAX_VALUE;
      for (int lane = 0; lane < lanes; lane++) {
        int time = queues[lane].timeOfNext(sort);
        if (queues[lane].mayBeChosen() && time < least) {
          least = time;
          found = lane;
        }
      }
      return found;
    }

    /** TIME in BEST; without end, if there is none, so that it is above all that is told. */
    int leastTime(int sort) {
      int lane = quickestLane(sort);
      return lane >= 0 ? queues[lane].timeOfNext(sort) : Integer.MAX_VALUE;
    }

    int timesTogether() {
      int sum = 0;
      for (int lane = 0; lane < lanes; lane++) {
        sum += queues[lane].timesTogether();
      }
      return sum;
    }

    int carsTogether() {
      int sum = 0;
      for (int lane = 0; lane < lanes; lane++) {
        sum += queues[lane].cars;
      }
      return sum;
    }

    int lanesToChoose() {
      int sum = 0;
      for (int lane = 0; lane < lanes; lane++) {
        sum += queues[lane].mayBeChosen() ? 1 : 0;
      }
      return sum;
    }

    int greatestWait() {
      int greatest = 0;
      for (int lane = 0; lane < lanes; lane++) {
        greatest = Math.max(greatest, queues[lane].waitNow());
      }
      return greatest;
    }

    int gain(int lane, int place, int to) {
      int sort = queues[lane].sorts[place];
      return queues[lane].timeAt(place) - queues[to].timeOfNext(sort);
    }

    void move(int lane, int place, int to) {
      if (hasCar(lane, place) && has(to) && queues[to].hasRoom()) {
        queues[to].comeIn(queues[lane].goOut(place));
      }
    }

    /** PAYS MOST. */
    int greatestGain(int above) {
      int found = NONE;
      int greatest = above;
      for (int lane = 0; lane < lanes; lane++) {
        for (int place = 1; place < queues[lane].cars; place++) {
          int to = bestChange(lane, place, greatest);
          if (to >= 0) {
            greatest = gain(lane, place, to);
            found = 100 * lane + 10 * place + to;
          }
        }
      }
      return found;
    }

    /** The LANE to which a CHANGE of one CAR has the greatest GAIN above a told one. */
    private int bestChange(int lane, int place, int above) {
      int found = NONE;
      int greatest = above;
      for (int to = 0; to < lanes; to++) {
        int gain = gain(lane, place, to);
        if (to != lane && queues[to].mayBeChosen() && gain > greatest) {
          greatest = gain;
          found = to;
        }
      }
      return found;
    }
  }

  /** What a SHELF holds; the LANE's KIND and FIGURE never change, so that they are kept here. */
  private static final class Shelf {
    static final int NOTHING = 0;
    static final int A_LANE = 1;
    static final int A_ROW = 2;

    int holds = NOTHING;
    int number = 0;
    int kind = LANE;
    int figure = 0;
    int sort = BYTES;
    int size = 0;
    final int[] values = new int[MOST_ELEMENTS];

    void holdNothing() {
      holds = NOTHING;
    }

    void holdLane(int newNumber, Queue queue) {
      holds = A_LANE;
      number = newNumber;
      kind = queue.kind;
      figure = queue.figure;
    }

    /** The size is one that a ROW may have. */
    void holdRow(int newSort, int newSize) {
      holds = A_ROW;
      sort = newSort;
      size = newSize;
      for (int i = 0; i < newSize; i++) {
        values[i] = 0;
      }
    }

    boolean hasElement(int i) {
      return holds == A_ROW && i >= 0 && i < size;
    }

    /** Written so that no sum can wrap around. */
    boolean hasElements(int from, int n) {
      return from >= 0 && n >= 0 && n <= size && from <= size - n;
    }

    int lowestBits(int v) {
      switch (sort) {
        case BYTES: return (byte) v;
        case SHORTS: return (short) v;
        default: return v;
      }
    }

    int leastNumber() {
      switch (sort) {
        case BYTES: return -128;
        case SHORTS: return -32768;
        default: return Integer.MIN_VALUE;
      }
    }
  }

  /** How a BORDER is read. */
  private static final class BorderText {
    private static final int AT_LETTER = 0;
    private static final int AT_KIND = 1;
    private static final int AT_FIGURE = 2;
    private static final int AT_SORTS = 3;
    private static final int AT_LANE = 4;
    private static final int AT_SORT = 5;
    private static final int AT_MINUTES = 6;
    private static final int AT_MORE_MINUTES = 7;
    private static final int AT_END = 8;
    private static final int NOWHERE = 9;

    /** The place of a FAULT of kind 1; below 0, if there is none. */
    static int firstBadByte(Shelf text) {
      int state = AT_LETTER;
      for (int place = 0; place < text.size; place++) {
        state = next(state, text.values[place]);
        if (state == NOWHERE) {
          return place;
        }
      }
      return state == AT_LETTER && text.size > 0 ? -1 : text.size;
    }

    private static int next(int state, int sign) {
      if (state == AT_LETTER) {
        return behindLetter(sign);
      }
      if (sign == ';') {
        boolean mayEnd = state == AT_SORTS || state == AT_MORE_MINUTES || state == AT_END;
        return mayEnd ? AT_LETTER : NOWHERE;
      }
      return sign >= '0' && sign <= '9' ? behindDigit(state, sign) : NOWHERE;
    }

    private static int behindLetter(int sign) {
      switch (sign) {
        case 'l': return AT_KIND;
        case 'c': return AT_LANE;
        case 'm': return AT_MINUTES;
        default: return NOWHERE;
      }
    }

    private static int behindDigit(int state, int sign) {
      switch (state) {
        case AT_KIND: return AT_FIGURE;
        case AT_FIGURE: return AT_SORTS;
        case AT_SORTS: return AT_SORTS;
        case AT_LANE: return AT_SORT;
        case AT_SORT: return AT_END;
        case AT_MINUTES: return sign == '0' ? AT_END : AT_MORE_MINUTES;
        case AT_MORE_MINUTES: return AT_END;
        default: return NOWHERE;
      }
    }

    /** The STATEMENT from its letter to its ; is carried out: whether it could be. */
    static boolean carryOut(Shelf text, int letter, int end, Crossing crossing) {
      if (!text.hasElement(letter)) {
        return false;
      }
      switch (text.values[letter]) {
        case 'l': return addLane(text, letter, end, crossing);
        case 'c': return addCar(crossing, digit(text, letter + 1), digit(text, letter + 2));
        default:
          crossing.goBy(number(text, letter + 1, end));
          return true;
      }
    }

    private static boolean addLane(Shelf text, int letter, int end, Crossing crossing) {
      int kind = digit(text, letter + 1);
      if (kind > FLED || !crossing.addLane(kind, digit(text, letter + 2))) {
        return false;
      }
      for (int i = letter + 3; i < end; i++) {
        if (!addCar(crossing, crossing.lanes - 1, digit(text, i))) {
          return false;
        }
      }
      return true;
    }

    private static boolean addCar(Crossing crossing, int lane, int sort) {
      if (!crossing.has(lane) || !isSort(sort) || !crossing.queues[lane].hasRoom()) {
        return false;
      }
      crossing.queues[lane].comeIn(sort);
      return true;
    }

    private static int digit(Shelf text, int place) {
      return text.hasElement(place) ? text.values[place] - '0' : 0;
    }

    private static int number(Shelf text, int from, int to) {
      int sum = 0;
      for (int i = from; i < to; i++) {
        sum = 10 * sum + digit(text, i);
      }
      return sum;
    }
  }
}
