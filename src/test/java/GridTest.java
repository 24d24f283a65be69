import java.lang.reflect.InvocationTargetException;
import java.lang.reflect.Method;
import java.util.Arrays;

/**
 * Every call with all numbers at its edges, each with each, answered by the class and by the model:
 * so every two refusals that can hold at once meet here.
 */
public final class GridTest {
  private static final int MIN = Integer.MIN_VALUE;
  private static final int MAX = Integer.MAX_VALUE;
  /** So many calls on one object that it stays below the 512 for which answers are promised. */
  private static final int CALLS_OF_ONE = 250;

  private static final int[] LANES = {MIN, -1, 0, 1, 2, 3, 4, 5, MAX};
  private static final int[] PLACES = {MIN, -1, 0, 1, 2, 6, 7, 8, MAX};
  private static final int[] SORTS = {MIN, -1, 0, 1, 2, 3, 4, MAX};
  private static final int[] SHELVES = {MIN, -1, 0, 1, 2, 3, 4, 5, 6, 7, 8, MAX};
  private static final int[] ELEMENTS = {MIN, -1, 0, 1, 2, 3, 20, 21, MAX};
  private static final int[] YES_NO = {MIN, -1, 0, 1, 2, MAX};
  private static final int[] THREE = {MIN, -1, 0, 1, 2, 3, MAX};
  private static final int[] TO_5 = {MIN, -1, 0, 1, 4, 5, 6, MAX};
  private static final int[] TO_9 = {MIN, -1, 0, 1, 8, 9, 10, MAX};
  private static final int[] TO_20 = {MIN, -1, 0, 1, 9, 10, 11, 19, 20, 21, MAX};
  private static final int[] TO_30 = {MIN, -1, 0, 1, 29, 30, 31, MAX};
  private static final int[] TO_60 = {MIN, -1, 0, 1, 2, 59, 60, 61, MAX};
  private static final int[] TO_99 = {MIN, -1, 0, 1, 5, 98, 99, 100, MAX};
  private static final int[] MINUS_99_TO_99 = {MIN, -100, -99, 0, 98, 99, 100, MAX};
  private static final int[] TO_100 = {MIN, -1, 0, 1, 99, 100, 101, MAX};
  private static final int[] TO_999 = {MIN, -1, 0, 1, 5, 998, 999, 1000, MAX};

  private static final String[] BORDERS = {
    "",
    "l00;",
    "l0003312;l1412;l4000000000;l5200;l5933333333;m1;",
    "l3931;l6033333333;l5300000000;m2;l7502;",
    "l50;l0100000000;l5933333333;",
  };

  private final String border;
  private LaneAtBorder x;
  private Model model;
  private int calls;

  private GridTest(String border) {
    this.border = border;
    begin();
  }

  public static void main(String[] args) {
    for (String border : BORDERS) {
      GridTest grid = new GridTest(border);
      grid.lookingCalls();
      grid.changingCalls();
    }
    Check.end();
  }

  private void lookingCalls() {
    grid("lane", false, LANES, SHELVES);
    grid("lane", false, LANES, TO_9);
    grid("car", false, LANES, PLACES);
    grid("takes", false, LANES, SORTS);
    grid("which", false, SORTS);
    grid("best", false, SORTS);
    grid("regret", false, SORTS);
    grid("time", false, LANES, PLACES);
    grid("all", false);
    grid("change", false, LANES, PLACES, LANES, YES_NO);
    grid("paysMost", false, TO_99);
    grid("rests", false, TO_99, YES_NO);
    grid("least", false);
    grid("oneLine", false);
    grid("beside", false, LANES, LANES, TO_60);
    grid("comers", false, SHELVES, TO_9, THREE, YES_NO);
    grid("opens", false, SHELVES, TO_9, TO_99);
    grid("bySorts", false, SHELVES, YES_NO);
    grid("advice", false, SORTS, TO_99);
    grid("news", false, MINUS_99_TO_99, TO_5, TO_20, TO_60);
    grid("grows", false, MINUS_99_TO_99, TO_5, TO_20);
    grid("other", false, SORTS, TO_999, TO_999);
    grid("seeded", false, TO_30, TO_99, YES_NO);
    grid("judge", false, LANES, SHELVES);
    grid("count", false, SHELVES);
    grid("element", false, SHELVES, ELEMENTS);
    grid("toll", false, SHELVES);
    grid("toss", false, SHELVES);
  }

  private void changingCalls() {
    grid("border", true, SHELVES);
    grid("comes", true, LANES, SORTS);
    grid("minutes", true, TO_60);
    grid("changes", true, LANES, PLACES, LANES);
    grid("image", true);
    grid("restore", true);
    grid("keep", true, SHELVES, YES_NO, LANES);
    grid("row", true, SHELVES, THREE, TO_100);
    grid("put", true, SHELVES, ELEMENTS, new int[] {-129, 128, 65536});
    int[] rows = {-1, 0, 1, 2, 3, 4, 6, 7, 8};
    int[] sizes = {MIN, -1, 0, 1, 2, 3, MAX};
    grid("copy", true, rows, sizes, rows, sizes, sizes);
  }

  /** Both with the border, and with shelves of all kinds; 7 holds nothing. */
  private void begin() {
    x = new LaneAtBorder();
    model = new Model();
    calls = 0;
    both("image");
    fill(0, 0, border.chars().toArray());
    both("border", 0);
    fill(0, 0, 0, 3, 2);
    fill(1, 1, 1, 0, -32768);
    fill(2, 2, 3, 2);
    both("keep", 3, 1, 0);
    both("keep", 4, 1, 2);
    both("row", 5, 0, 21);
    fill(6, 0, 'l', '1');
  }

  private void fill(int d, int sort, int... values) {
    both("row", d, sort, values.length);
    for (int i = 0; i < values.length; i++) {
      both("put", d, i, values[i]);
    }
  }

  /** All ways to take one number of each list; a call that changes something has a pair of its own. */
  private void grid(String name, boolean changes, int[]... lists) {
    int[] at = new int[lists.length];
    int[] numbers = new int[lists.length];
    boolean more = true;
    while (more) {
      for (int i = 0; i < lists.length; i++) {
        numbers[i] = lists[i][at[i]];
      }
      if (changes || calls > CALLS_OF_ONE) {
        begin();
      }
      both(name, numbers);
      more = step(at, lists);
    }
  }

  private static boolean step(int[] at, int[][] lists) {
    for (int i = 0; i < lists.length; i++) {
      at[i]++;
      if (at[i] < lists[i].length) {
        return true;
      }
      at[i] = 0;
    }
    return false;
  }

  private void both(String name, int... numbers) {
    calls++;
    Check.due(name + Arrays.toString(numbers) + " at " + border, answer(x, name, numbers), answer(model, name, numbers));
  }

  private static String answer(Object of, String name, int[] numbers) {
    Class<?>[] types = new Class<?>[numbers.length];
    Arrays.fill(types, int.class);
    try {
      Method method = of.getClass().getDeclaredMethod(name, types);
      return String.valueOf(method.invoke(of, Arrays.stream(numbers).boxed().toArray()));
    } catch (InvocationTargetException thrown) {
      return thrown.getCause().getClass().getSimpleName();
    } catch (ReflectiveOperationException missing) {
      throw new IllegalStateException("no such call: " + name, missing);
    }
  }
}
