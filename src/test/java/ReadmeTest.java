import java.io.IOException;
import java.lang.reflect.Method;
import java.nio.file.Files;
import java.nio.file.Path;
import java.util.HashSet;
import java.util.Set;
import java.util.regex.Matcher;
import java.util.regex.Pattern;

/** README.md: each call that stands there answers what stands behind it, and no call is left out. */
public final class ReadmeTest {
  private static final Pattern CALL =
      Pattern.compile("ship\\.(\\w+)\\((.*)\\); +// (-?\\d+)(: .*)?");

  public static void main(String[] args) throws ReflectiveOperationException, IOException {
    String page = Files.readString(Path.of("README.md"));
    int examples = 0;
    Matcher example = Pattern.compile("(?s)```java\n(.*?)```").matcher(page);
    while (example.find()) {
      run(example.group(1).split("\n"));
      examples++;
    }
    Checks.due("examples", examples, 3);
    named(page);
    Checks.end("ReadmeTest");
  }

  private static void run(String[] lines) throws ReflectiveOperationException {
    DailyRelief ship = null;
    for (String line : lines) {
      if (line.equals("DailyRelief ship = new DailyRelief();")) {
        ship = new DailyRelief();
        continue;
      }
      Matcher call = CALL.matcher(line);
      boolean whole = call.matches();
      Checks.due(line + " is a call with its answer", whole ? 1 : 0, 1);
      if (whole) {
        Checks.due(line, answer(ship, call.group(1), call.group(2)), Long.parseLong(call.group(3)));
      }
    }
  }

  private static int answer(DailyRelief ship, String name, String told)
      throws ReflectiveOperationException {
    String[] words = told.isEmpty() ? new String[0] : told.split(", ");
    for (Method method : DailyRelief.class.getMethods()) {
      if (method.getName().equals(name) && method.getParameterCount() == words.length) {
        Object[] given = new Object[words.length];
        for (int i = 0; i < words.length; i++) {
          long v = Long.decode(words[i].replace("L", ""));
          given[i] = method.getParameterTypes()[i] == long.class ? (Object) v : (Object) (int) v;
        }
        return (Integer) method.invoke(ship, given);
      }
    }
    throw new NoSuchMethodException(name);
  }

  /** The table of calls names each of the face, and nothing else. */
  private static void named(String page) {
    Set<String> names = new HashSet<>();
    Matcher row = Pattern.compile("(?m)^\\| ((?:`\\w+` )+)\\|").matcher(page);
    while (row.find()) {
      for (String name : row.group(1).trim().split(" ")) {
        names.add(name.replace("`", ""));
      }
    }
    for (Method method : DailyRelief.class.getDeclaredMethods()) {
      if (java.lang.reflect.Modifier.isPublic(method.getModifiers())) {
        Checks.due("README.md names " + method.getName(), names.remove(method.getName()) ? 1 : 0, 1);
      }
    }
    Checks.due("README.md names " + names, names.size(), 0);
  }
}
