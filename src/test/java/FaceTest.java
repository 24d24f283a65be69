import java.io.IOException;
import java.lang.reflect.Constructor;
import java.lang.reflect.Field;
import java.lang.reflect.Method;
import java.lang.reflect.Modifier;
import java.nio.file.Files;
import java.nio.file.Path;
import java.util.Set;
import java.util.TreeSet;
import java.util.regex.Matcher;
import java.util.regex.Pattern;

/** The public face: all that the document's code block has, and nothing else that can be seen. */
public final class FaceTest {
  private static final Pattern BLOCK =
      Pattern.compile("## The public face\\s+```java\\s+(public final class) LaneAtBorder \\{(.*?)\\}\\s+```", Pattern.DOTALL);

  public static void main(String[] args) throws IOException {
    Matcher block = BLOCK.matcher(Files.readString(Path.of("../shared/DOC.md")));
    if (!block.find()) {
      throw new IllegalStateException("the document has no face");
    }
    Class<?> face = LaneAtBorder.class;
    Check.due("the class", Modifier.toString(face.getModifiers()) + " class", block.group(1));
    Check.due("what is above it", face.getSuperclass().getName(), "java.lang.Object");
    Check.due("its interfaces", face.getInterfaces().length, 0);
    Set<String> due = promised(block.group(2));
    Check.due("how many are promised", due.size(), 38);
    Check.due("what can be seen", String.join("\n", seen(face)), String.join("\n", due));
    hidesTheRest(face, due);
    Check.end();
  }

  /** The block's lines without the names of what is given. */
  private static Set<String> promised(String lines) {
    Set<String> all = new TreeSet<>();
    for (String line : lines.split(";")) {
      if (!line.isBlank()) {
        all.add(line.strip().replaceAll("int \\w+([,)])", "int$1"));
      }
    }
    return all;
  }

  private static Set<String> seen(Class<?> face) {
    Set<String> all = new TreeSet<>();
    for (Constructor<?> constructor : face.getDeclaredConstructors()) {
      all.add(plain(constructor.toString()));
    }
    for (Method method : face.getDeclaredMethods()) {
      if (!Modifier.isPrivate(method.getModifiers())) {
        all.add(plain(method.toString()));
      }
    }
    return all;
  }

  private static String plain(String told) {
    return told.replace("LaneAtBorder.", "").replace("java.lang.", "").replaceAll(",(?=\\w)", ", ");
  }

  private static void hidesTheRest(Class<?> face, Set<String> due) {
    for (Method method : face.getDeclaredMethods()) {
      boolean hidden = Modifier.isPrivate(method.getModifiers());
      if (hidden && due.stream().anyMatch(line -> line.contains(" " + method.getName() + "("))) {
        Check.fail("a private method bears the name " + method.getName());
      }
    }
    for (Field field : face.getDeclaredFields()) {
      Check.due("field " + field.getName(), Modifier.isPrivate(field.getModifiers()) ? 1 : 0, 1);
    }
    for (Class<?> inside : face.getDeclaredClasses()) {
      boolean fits = Modifier.isStatic(inside.getModifiers()) && !Modifier.isPublic(inside.getModifiers());
      Check.due("class " + inside.getName() + " is static and not public", fits ? 1 : 0, 1);
    }
  }
}
