import java.io.IOException;
import java.lang.reflect.InvocationTargetException;
import java.lang.reflect.Method;
import java.nio.file.Files;
import java.nio.file.Path;
import java.util.HashMap;
import java.util.Map;
import java.util.regex.Matcher;
import java.util.regex.Pattern;

/** Asks each row of README.md (in -Dproject=...) of one object, and holds the answer against that which it tells. */
public final class ReadmeTest {
  private static final Pattern ROW = Pattern.compile("(?:int (\\w+) = )?bark\\.(\\w+)\\(([^)]*)\\);\\s+// (\\w+).*");
  private static final Check check = new Check("ReadmeTest");

  private final Treebark bark = new Treebark();
  private final Map<String, Object> known = new HashMap<>(Map.of("Treebark.SINGLE", Treebark.SINGLE,
      "Treebark.MIRROR", Treebark.MIRROR, "true", true, "false", false));
  private final Map<String, Integer> asked = new HashMap<>();

  private static Method called(String name) {
    for (Method method : Treebark.class.getMethods()) {
      if (method.getName().equals(name) && method.getDeclaringClass() == Treebark.class) {
        return method;
      }
    }
    throw new IllegalArgumentException("there is no call " + name);
  }

  private Object argument(String text) {
    Object value = known.get(text);
    return value != null ? value : Integer.valueOf(text);
  }

  private Object answer(Method method, String arguments) throws IllegalAccessException {
    String[] texts = arguments.isEmpty() ? new String[0] : arguments.split(", ");
    Object[] values = new Object[texts.length];
    for (int i = 0; i < texts.length; i++) {
      values[i] = argument(texts[i]);
    }
    try {
      return method.invoke(bark, values);
    } catch (InvocationTargetException e) {
      return e.getCause().getClass().getSimpleName();
    }
  }

  private static String due(String told) {
    Map<String, Integer> constants = Map.of("NONE", Treebark.NONE, "LOST", Treebark.LOST, "SINGLE", Treebark.SINGLE);
    return constants.containsKey(told) ? constants.get(told).toString() : told;
  }

  private void ask(String row) throws IllegalAccessException {
    Matcher parts = ROW.matcher(row);
    check.due("a row that can be asked: " + row, true, parts.matches());
    if (!parts.matches()) {
      return;
    }
    Method method = called(parts.group(2));
    Object answer = answer(method, parts.group(3));
    // What is told behind a call without an answer is no answer, but it throws nothing.
    String due = method.getReturnType() == void.class ? "null" : due(parts.group(4));
    check.due(row, due, String.valueOf(answer));
    asked.merge(parts.group(2), 1, Integer::sum);
    if (parts.group(1) != null) {
      known.put(parts.group(1), answer);
    }
  }

  private void askAll(Path readme) throws IOException, IllegalAccessException {
    boolean isJava = false;
    for (String row : Files.readAllLines(readme)) {
      if (row.startsWith("```")) {
        isJava = row.equals("```java");
      } else if (isJava && !row.equals("Treebark bark = new Treebark();")) {
        ask(row);
      }
    }
  }

  private void everyCallIsShown() {
    for (Method method : Treebark.class.getMethods()) {
      if (method.getDeclaringClass() == Treebark.class) {
        check.due("README.md shows " + method.getName(), true, asked.containsKey(method.getName()));
      }
    }
  }

  public static void main(String[] args) throws IOException, IllegalAccessException {
    check.promise("README.md");
    ReadmeTest test = new ReadmeTest();
    test.askAll(Path.of(System.getProperty("project"), "README.md"));
    test.everyCallIsShown();
    check.end();
  }
}
