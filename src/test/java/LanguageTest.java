import java.io.IOException;
import java.lang.management.ManagementFactory;
import java.lang.reflect.Constructor;
import java.lang.reflect.Field;
import java.lang.reflect.Method;
import java.lang.reflect.Modifier;
import java.nio.file.Files;
import java.nio.file.Path;
import java.util.Set;
import java.util.TreeSet;
import java.util.regex.Matcher;
import java.util.regex.Pattern;

/** The document's face, and the rules of LANGUAGE.md that a text or a class file can show. */
public final class LanguageTest {
  private static final Path DOCUMENT = Path.of("../shared/DOC.md");
  private static final Pattern METHOD = Pattern.compile("public (int|long) (\\w+)\\(([^)]*)\\);");
  private static final int METHODS = 25;
  private static final String[] RULED_OUT = {
    "throw", "try", "catch", "finally", "synchronized", "assert", "import", "package", "protected",
    "->", "::", "Exact", "System.", "Object", "hashCode", "toString", "Thread", "float", "double"
  };

  private final Check check = new Check();

  public static void main(String[] args) throws IOException {
    LanguageTest test = new LanguageTest();
    test.face();
    test.fields();
    test.text();
    test.noObjectsByCalls();
    test.check.end();
  }

  private void face() throws IOException {
    check.holds("the class is public and final", Modifier.isPublic(SpanMaps.class.getModifiers())
        && Modifier.isFinal(SpanMaps.class.getModifiers()));
    Set<String> due = faceOfTheDocument();
    check.due("methods of the document's face", due.size(), METHODS);
    Set<String> found = new TreeSet<>();
    Set<String> names = new TreeSet<>();
    for (Method method : SpanMaps.class.getDeclaredMethods()) {
      if (!Modifier.isPrivate(method.getModifiers())) {
        check.holds(method + " is public alone", method.getModifiers() == Modifier.PUBLIC);
        found.add(signature(method));
        names.add(method.getName());
      }
    }
    check.holds("the face is " + found, due.equals(found));
    for (Class<?> inside : SpanMaps.class.getDeclaredClasses()) {
      check.holds(inside + " is static", Modifier.isStatic(inside.getModifiers()));
      check.holds(inside + " is not public", !Modifier.isPublic(inside.getModifiers()));
      privateNames(inside, names);
    }
    privateNames(SpanMaps.class, names);
    Constructor<?>[] made = SpanMaps.class.getDeclaredConstructors();
    check.holds("one public constructor without parameters", made.length == 1
        && Modifier.isPublic(made[0].getModifiers()) && made[0].getParameterCount() == 0);
  }

  /** The types of the parameters alone: what these are called is free. */
  private static Set<String> faceOfTheDocument() throws IOException {
    Set<String> methods = new TreeSet<>();
    Matcher method = METHOD.matcher(Files.readString(DOCUMENT));
    while (method.find()) {
      String types = method.group(3).replaceAll("(int|long) \\w+", "$1").replace(" ", "");
      methods.add(method.group(1) + " " + method.group(2) + "(" + types + ")");
    }
    return methods;
  }

  private void privateNames(Class<?> type, Set<String> publicNames) {
    for (Method method : type.getDeclaredMethods()) {
      boolean ofFace = type == SpanMaps.class && Modifier.isPublic(method.getModifiers());
      check.holds(method + " has a name of its own", ofFace || !publicNames.contains(method.getName()));
      check.holds(method + " has at most seven parameters", method.getParameterCount() <= 7);
    }
  }

  private static String signature(Method method) {
    StringBuilder text = new StringBuilder(method.getReturnType() + " " + method.getName() + "(");
    for (Class<?> type : method.getParameterTypes()) {
      text.append(text.charAt(text.length() - 1) == '(' ? "" : ",").append(type);
    }
    return text.append(')').toString();
  }

  private void fields() {
    Set<String> seen = new TreeSet<>();
    for (Field field : SpanMaps.class.getDeclaredFields()) {
      int marks = field.getModifiers();
      check.holds(field + " is final", Modifier.isFinal(marks));
      if (!Modifier.isPrivate(marks)) {
        check.holds(field + " is a public constant", Modifier.isPublic(marks) && Modifier.isStatic(marks));
        seen.add(field.getName());
      }
    }
    check.holds("the constants are NONE, BAD and NO", seen.equals(Set.of("NONE", "BAD", "NO")));
    check.due("NONE", SpanMaps.NONE, -1);
    check.due("BAD", SpanMaps.BAD, -2);
    check.due("NO", SpanMaps.NO, -3);
  }

  private void text() throws IOException {
    String text = Files.readString(Path.of("src/main/java/SpanMaps.java"));
    String code = text.replaceAll("(?s)/\\*.*?\\*/", " ").replaceAll("//[^\n]*", " ");
    for (String word : RULED_OUT) {
      String edge = Character.isLetter(word.charAt(0)) ? "\\b" : "";
      check.holds("'" + word + "' stands in the class", !Pattern.compile(edge + Pattern.quote(word)).matcher(code).find());
    }
    check.holds("a character beyond 127 stands in the class", text.chars().allMatch(c -> c < 128));
  }

  /** Rows are made in the constructor and used again, so that all calls fit in one room. */
  private void noObjectsByCalls() {
    if (!(ManagementFactory.getThreadMXBean() instanceof com.sun.management.ThreadMXBean bean)) {
      return;
    }
    SpanMaps x = new SpanMaps();
    x.map(0, 5);
    for (int i = 0; i <= 5; i++) {
      x.corner(0, i, i % 2 == 0 ? 0 : 5);
    }
    useAll(x);
    long before = bean.getCurrentThreadAllocatedBytes();
    for (int t = 0; t < 1000; t++) {
      useAll(x);
    }
    long made = bean.getCurrentThreadAllocatedBytes() - before;
    check.holds("calls made objects of " + made + " bytes", made < 20000);
    before = bean.getCurrentThreadAllocatedBytes();
    for (int t = 0; t < 1000; t++) {
      useAll(new SpanMaps());
    }
    made = (bean.getCurrentThreadAllocatedBytes() - before) / 1000;
    check.holds("a new object takes " + made + " bytes", made < 20000);
  }

  private static long useAll(SpanMaps x) {
    long sum = x.digest() + x.copy(0, 1) + x.turn(0, 2) + x.far(0, 1, 3, 9, 0) + x.word(0, 1, 3, 9);
    sum += x.order(0, 1, 3, 2, 3, 9) + x.join(0, 1, 1, 3, 0) + x.ways(0, 1, 2, 10) + x.pieces(0, 10);
    sum += x.part(0, 4) + x.mixes(0) + x.rounds(0, 6) + x.round(0, 6, 77, 0) + x.period(0, 6);
    sum += x.has(0, 6) + x.forces(12, 40) + x.most(0) + x.top(0) + x.topWord(0, 3) + x.topRound(0, 0);
    return sum + x.table(0, 1, 1) + x.slope(0, 1) + x.cornerAt(0, 1) + x.map(3, 4) + x.corner(3, 1, 1);
  }
}
