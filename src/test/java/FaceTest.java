import java.lang.reflect.Constructor;
import java.lang.reflect.Field;
import java.lang.reflect.Method;
import java.lang.reflect.Modifier;
import java.util.Set;
import java.util.TreeSet;

/** The public face: every constructor and method of the document, and no other that can be seen. */
public final class FaceTest {
  private static final String FACE =
      "all() beside(int,int,int) best(int) border(int) bySorts(int,int) car(int,int)"
          + " change(int,int,int,int) changes(int,int,int) comers(int,int,int,int) comes(int,int)"
          + " copy(int,int,int,int,int) count(int) element(int,int) grows(int,int,int) image()"
          + " judge(int,int) keep(int,int,int) lane(int,int) least() minutes(int)"
          + " news(int,int,int,int) oneLine() opens(int,int,int) other(int,int,int) paysMost(int)"
          + " put(int,int,int) regret(int) restore() rests(int,int) row(int,int,int)"
          + " seeded(int,int,int) takes(int,int) time(int,int) toll(int) toss(int) which(int)"
          + " advice(int,int)";

  public static void main(String[] args) {
    Class<?> face = LaneAtBorder.class;
    Check.due("the class", Modifier.toString(face.getModifiers()), "public final");
    Set<String> due = new TreeSet<>(Set.of(FACE.split(" ")));
    Set<String> seen = new TreeSet<>();
    for (Method method : face.getDeclaredMethods()) {
      if (!Modifier.isPrivate(method.getModifiers())) {
        seen.add(signature(method));
        String result = method.getName().equals("element") ? "long" : "int";
        Check.due("what " + method.getName() + " answers", method.getReturnType().getName(), result);
        Check.due("how it is seen", Modifier.toString(method.getModifiers()), "public");
      } else if (FACE.contains(" " + method.getName() + "(")) {
        Check.fail("a private method bears the name " + method.getName());
      }
    }
    Check.due("the methods", seen.toString(), due.toString());
    for (Field field : face.getDeclaredFields()) {
      Check.due("field " + field.getName(), Modifier.isPrivate(field.getModifiers()) ? 1 : 0, 1);
    }
    Constructor<?>[] constructors = face.getDeclaredConstructors();
    Check.due("constructors", constructors.length, 1);
    Check.due("its parameters", constructors[0].getParameterCount(), 0);
    Check.due("the constructor", Modifier.toString(constructors[0].getModifiers()), "public");
    Check.end();
  }

  private static String signature(Method method) {
    StringBuilder all = new StringBuilder(method.getName()).append('(');
    for (Class<?> type : method.getParameterTypes()) {
      all.append(all.charAt(all.length() - 1) == '(' ? "" : ",").append(type.getName());
    }
    return all.append(')').toString();
  }
}
