import java.io.IOException;
import java.lang.reflect.Constructor;
import java.lang.reflect.Field;
import java.lang.reflect.Method;
import java.lang.reflect.Modifier;
import java.nio.file.Files;
import java.nio.file.Path;
import java.util.Arrays;
import java.util.HashSet;
import java.util.Set;
import java.util.regex.Matcher;
import java.util.regex.Pattern;

/** The public face, and the rules of ../shared/LANGUAGE.md that can be seen from outside. */
public final class FaceTest {
  private static final String[] FACE = {
    "bunk int", "bunkIs int int", "as int int", "set int int int", "know int int int",
    "roster int int", "book int", "task int int int", "taskIs int int", "feed long int",
    "text int", "untell int", "days int", "draws int", "misheard int", "seed int",
    "then int int int", "thenTask int int int", "lost int int", "teachers int int int",
    "storm int", "saves int int", "changes int int", "began int int", "handed int int",
    "wages int", "voice int int int", "body int", "sheet int int int", "put int int int",
    "move int int int int int", "rosters int", "judge int", "image", "restore", "tell int",
    "check int", "count int", "told int"};

  public static void main(String[] args) throws IOException {
    face();
    nested();
    source();
    Checks.end("FaceTest");
  }

  private static void right(String what, boolean is) {
    Checks.due(what, is ? 1 : 0, 1);
  }

  private static void face() {
    Set<String> names = new HashSet<>();
    Set<String> due = new HashSet<>(Arrays.asList(FACE));
    for (String f : FACE) {
      names.add(f.split(" ")[0]);
    }
    for (Method method : DailyRelief.class.getDeclaredMethods()) {
      StringBuilder told = new StringBuilder(method.getName());
      for (Class<?> type : method.getParameterTypes()) {
        told.append(' ').append(type.getName());
      }
      if (Modifier.isPublic(method.getModifiers())) {
        right("face has " + told, due.remove(told.toString()));
        right(told + " answers an int", method.getReturnType() == int.class);
      } else {
        right(method + " is private", Modifier.isPrivate(method.getModifiers()));
        right(method + " has a name of its own", !names.contains(method.getName()));
      }
    }
    right("lacking: " + due, due.isEmpty());
    for (Field field : DailyRelief.class.getDeclaredFields()) {
      right(field + " is private", Modifier.isPrivate(field.getModifiers()));
    }
    Constructor<?>[] made = DailyRelief.class.getDeclaredConstructors();
    right("one constructor", made.length == 1 && Modifier.isPublic(made[0].getModifiers()));
    right("is final", Modifier.isFinal(DailyRelief.class.getModifiers()));
  }

  private static void nested() {
    Class<?>[] inside = DailyRelief.class.getDeclaredClasses();
    right("some twelve classes", inside.length < 12);
    for (Class<?> c : inside) {
      right(c + " is static", Modifier.isStatic(c.getModifiers()));
      right(c + " is private", Modifier.isPrivate(c.getModifiers()));
      int fields = 0;
      for (Field field : c.getDeclaredFields()) {
        boolean shared = Modifier.isStatic(field.getModifiers());
        fields += shared ? 0 : 1;
        right(field + " doesn't change", !shared || Modifier.isFinal(field.getModifiers()));
      }
      right(c + " has some twenty fields", fields <= 20);
      for (Method method : c.getDeclaredMethods()) {
        right(method + " has few parameters", method.getParameterCount() <= 7);
      }
    }
  }

  /** The source without comments has none of what the rules leave out. */
  private static void source() throws IOException {
    String source = Files.readString(Path.of("src/main/java/DailyRelief.java"));
    right("signs are 1 to 127", source.chars().allMatch(c -> c > 0 && c < 128));
    String code = source.replaceAll("(?s)/\\*.*?\\*/", "").replaceAll("//.*", "");
    Matcher out = Pattern.compile("\\b(throw|throws|try|catch|synchronized|assert|package|import"
        + "|Object|equals|hashCode|toString|protected|abstract)\\b|->|::|@|\"").matcher(code);
    while (out.find()) {
      Checks.due("source has " + out.group(), 1, 0);
    }
  }
}
