import java.util.ArrayList;
import java.util.List;
import java.util.function.IntToLongFunction;
import java.util.function.LongSupplier;

/** What every case has: an object that is new, and ways to say which answers are due. */
abstract class Cases {
  static final int LEAST = Integer.MIN_VALUE;
  static final int GREATEST = Integer.MAX_VALUE;
  static final int MAPS = 8;
  static final int[] TENT = {0, 2, 0};

  final SpanMaps x = new SpanMaps();
  private final List<String> faults = new ArrayList<>();
  private int asked;

  final int asked() {
    return asked;
  }

  final List<String> faults() {
    return faults;
  }

  final void due(long got, long want) {
    due("", got, want);
  }

  final void due(String about, long got, long want) {
    asked++;
    if (got != want) {
      faults.add(place() + about + " answered " + got + ", due is " + want);
    }
  }

  /** The line of the case that asked, so that answers need no names. */
  private String place() {
    return StackWalker.getInstance().walk(frames -> frames
        .filter(frame -> !frame.getClassName().equals("Cases"))
        .findFirst()
        .map(frame -> "line " + frame.getLineNumber() + ": ")
        .orElse(""));
  }

  final void rows(String about, IntToLongFunction call, int from, long... want) {
    for (int t = 0; t < want.length; t++) {
      due(about + " " + (from + t), call.applyAsLong(from + t), want[t]);
    }
  }

  final void bad(LongSupplier call) {
    refused(call, SpanMaps.BAD);
  }

  /** A refused call answers what is due, and changes nothing. */
  final void refused(LongSupplier call, long want) {
    long before = x.digest();
    due("a call to refuse", call.getAsLong(), want);
    due("the digest behind a refused call", x.digest(), before);
  }

  /** A call that is asked about map m takes the first and the last map, and none beyond them. */
  final void onlyMaps0To7(IntToLongFunction call, long refusal) {
    for (int m : new int[] {-1, MAPS, MAPS + 1, LEAST, GREATEST}) {
      refused(() -> call.applyAsLong(m), refusal);
    }
    for (int m : new int[] {0, MAPS - 1}) {
      due("map " + m + " is refused", call.applyAsLong(m) == refusal ? 1 : 0, 0);
    }
  }

  final void onlyMaps0To7(IntToLongFunction call) {
    onlyMaps0To7(call, SpanMaps.BAD);
  }

  /** A new object whose map 0 has its corners led as told, where x would have too many calls. */
  static SpanMaps with(int... led) {
    SpanMaps made = new SpanMaps();
    made.map(0, led.length - 1);
    for (int i = 0; i < led.length; i++) {
      made.corner(0, i, led[i]);
    }
    return made;
  }

  final void lead(int m, int... led) {
    due("map", x.map(m, led.length - 1), 1);
    for (int i = 0; i < led.length; i++) {
      due("corner " + i, x.corner(m, i, led[i]), 0);
    }
  }

  /** Map m has just these corners. */
  final void ledTo(int m, int... led) {
    for (int i = 0; i < led.length; i++) {
      due("corner " + i + " of map " + m, x.cornerAt(m, i), led[i]);
    }
    due("a corner too many of map " + m, x.cornerAt(m, led.length), -2);
  }
}
