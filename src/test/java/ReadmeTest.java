import java.io.IOException;
import java.lang.reflect.Method;
import java.nio.file.Files;
import java.nio.file.Path;
import java.util.List;
import java.util.regex.Matcher;
import java.util.regex.Pattern;

/** The calls that README.md shows answer what it says: it is read from where the test is run. */
public final class ReadmeTest {
  private static final Pattern CALL = Pattern.compile("(x\\.(\\w+)\\((.*)\\)); +// (-?\\d+)(: .*)?");

  public static void main(String[] args) throws IOException, ReflectiveOperationException {
    List<String> lines = Files.readAllLines(Path.of("README.md"));
    int first = lines.indexOf("```java");
    Due.holds("README.md shows calls", first >= 0);
    Due.holds("the first line shown makes the object", lines.get(first + 1).equals("SureNoes x = new SureNoes();"));
    SureNoes x = new SureNoes();
    for (int i = first + 2; !lines.get(i).equals("```"); i++) {
      if (!lines.get(i).isEmpty()) {
        oneLine(x, lines.get(i));
      }
    }
    Due.end();
  }

  private static void oneLine(SureNoes x, String line) throws ReflectiveOperationException {
    Matcher shown = CALL.matcher(line);
    boolean readable = shown.matches();
    Due.holds("a call with its answer: " + line, readable);
    if (readable) {
      Due.is(shown.group(1), answer(x, shown.group(2), shown.group(3)), Long.parseLong(shown.group(4)));
    }
  }

  private static long answer(SureNoes x, String name, String told) throws ReflectiveOperationException {
    for (Method method : SureNoes.class.getMethods()) {
      if (method.getDeclaringClass() == SureNoes.class && method.getName().equals(name)) {
        return ((Number) method.invoke(x, arguments(method.getParameterTypes(), told))).longValue();
      }
    }
    throw new NoSuchMethodException(name);
  }

  private static Object[] arguments(Class<?>[] types, String told) {
    String[] parts = told.isEmpty() ? new String[0] : told.split(", ");
    Object[] all = new Object[parts.length];
    for (int i = 0; i < parts.length; i++) {
      all[i] = types[i] == boolean.class ? (Object) Boolean.valueOf(parts[i])
          : types[i] == long.class ? (Object) Long.valueOf(parts[i]) : (Object) Integer.valueOf(parts[i]);
    }
    return all;
  }
}
