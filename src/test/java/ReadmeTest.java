import java.io.IOException;
import java.lang.reflect.Method;
import java.lang.reflect.Modifier;
import java.nio.file.Files;
import java.nio.file.Path;
import java.util.Set;
import java.util.TreeSet;
import java.util.regex.Matcher;
import java.util.regex.Pattern;

/** What README.md says of the class: its example answers as told, and its table has every call. */
public final class ReadmeTest {
  // The answer is the number that the remark begins with; a remark without one tells none.
  private static final Pattern EXAMPLE = Pattern.compile("(?m)^x\\.(\\w+)\\(([^)]*)\\);(?: +// (-?\\d+)?.*)?$");
  private static final Pattern TABLE_ROW = Pattern.compile("(?m)^\\| `(\\w+)\\(([^)]*)\\)` \\|");

  private final Check check = new Check();
  private final String text = Files.readString(Path.of("README.md"));

  private ReadmeTest() throws IOException {
  }

  public static void main(String[] args) throws IOException, ReflectiveOperationException {
    ReadmeTest test = new ReadmeTest();
    test.example();
    test.table();
    test.check.end();
  }

  private void example() throws ReflectiveOperationException {
    SpanMaps x = new SpanMaps();
    Matcher row = EXAMPLE.matcher(text);
    int told = 0;
    while (row.find()) {
      long answer = call(x, row.group(1), row.group(2));
      if (row.group(3) != null) {
        told++;
        check.due(row.group(), answer, Long.parseLong(row.group(3)));
      }
    }
    check.holds("the example tells answers", told > 0);
  }

  private void table() {
    Set<String> told = new TreeSet<>();
    Matcher row = TABLE_ROW.matcher(text);
    while (row.find()) {
      told.add(row.group(1) + " " + count(row.group(2)));
    }
    Set<String> due = new TreeSet<>();
    for (Method method : SpanMaps.class.getDeclaredMethods()) {
      if (Modifier.isPublic(method.getModifiers())) {
        due.add(method.getName() + " " + method.getParameterCount());
      }
    }
    check.holds("the table tells the calls " + told + ", due are " + due, told.equals(due));
  }

  private static int count(String parameters) {
    return parameters.isBlank() ? 0 : parameters.split(",").length;
  }

  private static long call(SpanMaps x, String name, String numbers) throws ReflectiveOperationException {
    for (Method method : SpanMaps.class.getDeclaredMethods()) {
      if (method.getName().equals(name) && method.getParameterCount() == count(numbers)) {
        return ((Number) method.invoke(x, values(method.getParameterTypes(), numbers))).longValue();
      }
    }
    throw new NoSuchMethodException(name + "(" + numbers + ")");
  }

  private static Object[] values(Class<?>[] types, String numbers) {
    String[] words = numbers.split(", *");
    Object[] values = new Object[types.length];
    for (int i = 0; i < types.length; i++) {
      if (types[i] == int.class) {
        values[i] = Integer.valueOf(words[i]);
      } else {
        values[i] = Long.valueOf(words[i]);
      }
    }
    return values;
  }
}
