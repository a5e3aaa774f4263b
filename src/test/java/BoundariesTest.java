import java.io.IOException;
import java.lang.reflect.Method;
import java.util.Arrays;
import java.util.Comparator;
import java.util.List;
import java.util.Set;
import java.util.TreeSet;

/**
 * Runs every case of the document's sentences, each on an object of its own, and sees to it that
 * each clause of the document is quoted by a case. With arguments it runs only the cases whose
 * names hold one of them.
 */
public final class BoundariesTest {
  private static final List<Class<? extends Cases>> CASES =
      List.of(MapsCases.class, PointsCases.class, TablesCases.class, RoundsCases.class, TopsCases.class);

  private final Document document = new Document();
  private final Set<Integer> promises = new TreeSet<>();
  private int passed;
  private int failed;

  private BoundariesTest() throws IOException {
  }

  public static void main(String[] args) throws IOException, ReflectiveOperationException {
    BoundariesTest test = new BoundariesTest();
    for (Class<? extends Cases> type : CASES) {
      test.runAll(type, args);
    }
    if (args.length == 0) {
      test.lookForGaps();
    }
    System.out.println(test.passed + " cases hold, " + test.failed + " do not");
    if (test.failed != 0 || test.passed == 0) {
      System.exit(1);
    }
  }

  private void runAll(Class<? extends Cases> type, String[] names) throws ReflectiveOperationException {
    Method[] methods = type.getDeclaredMethods();
    Arrays.sort(methods, Comparator.comparing(Method::getName));
    for (Method method : methods) {
      String name = method.getName();
      Promise promise = method.getAnnotation(Promise.class);
      if (promise == null) {
        told(type, name, !name.startsWith("promise"), "a case quotes the document");
      } else if (names.length == 0 || Arrays.stream(names).anyMatch(name::contains)) {
        run(type, method, promise);
      }
    }
  }

  private void run(Class<? extends Cases> type, Method method, Promise promise) throws ReflectiveOperationException {
    String name = method.getName();
    told(type, name, name.startsWith("promise" + promise.n() + "_"), "a case's name begins with its promise");
    for (String words : promise.says()) {
      told(type, name, document.quote(promise.n(), words), "the document does not say '" + words + "'");
    }
    promises.add(promise.n());
    Cases cases = type.getDeclaredConstructor().newInstance();
    method.invoke(cases);
    told(type, name, cases.asked() > 0, "a case asks for an answer");
    for (String fault : cases.faults()) {
      told(type, name + " (" + String.join(" / ", promise.says()) + ")", false, fault);
    }
    passed += cases.faults().isEmpty() ? 1 : 0;
  }

  private void told(Class<?> type, String name, boolean holds, String fault) {
    if (!holds) {
      failed++;
      System.out.println(type.getName() + "." + name + ": " + fault);
    }
  }

  private void lookForGaps() {
    told(Document.class, "promises", promises.size() == document.promises() && document.promises() == 26,
        "there are cases of " + promises);
    for (String clause : document.clausesThatNoCaseQuotes()) {
      told(Document.class, "clauses", false, "no case quotes " + clause);
    }
  }
}
