/** Counts the answers that are not as due; a test ends with exit code 1 if there was one. */
final class Check {
  private static final int MOST_TOLD = 40;
  private int asked;
  private int wrong;

  void due(String call, long got, long want) {
    asked++;
    if (got != want) {
      fault(call + " answered " + got + ", due is " + want);
    }
  }

  void holds(String what, boolean truth) {
    asked++;
    if (!truth) {
      fault(what);
    }
  }

  private void fault(String text) {
    wrong++;
    if (wrong <= MOST_TOLD) {
      System.out.println(text);
    }
  }

  void end() {
    System.out.println(asked + " answers, " + wrong + " not as due");
    if (wrong != 0 || asked == 0) {
      System.exit(1);
    }
  }
}
