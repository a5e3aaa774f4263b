import java.util.ArrayList;
import java.util.List;
import java.util.TreeSet;

/**
 * The document a second time, by the slowest and most literal means: lines are drawn with all
 * their corners, words are written out, ways are walked one by one. It has the face of SpanMaps,
 * so that the same calls can be put to both.
 */
final class SlowMaps {
  private final int[] n = new int[8];
  private final int[][] led = new int[8][];

  SlowMaps() {
    for (int m = 0; m < 8; m++) {
      n[m] = 1;
      led[m] = new int[2];
    }
  }

  private static boolean in(long x, long low, long high) {
    return low <= x && x <= high;
  }

  private boolean noMap(int m) {
    return !in(m, 0, 7);
  }

  private boolean noPoint(int m, long a, long b) {
    return !in(b, 1, 100000) || !in(a, 0, n[m] * b);
  }

  int map(int m, int pieces) {
    if (noMap(m) || !in(pieces, 1, 5)) {
      return -2;
    }
    n[m] = pieces;
    led[m] = new int[pieces + 1];
    return 1;
  }

  int corner(int m, int i, int v) {
    if (noMap(m) || !in(i, 0, n[m]) || !in(v, 0, n[m])) {
      return -2;
    }
    int was = led[m][i];
    led[m][i] = v;
    return was;
  }

  int cornerAt(int m, int i) {
    return noMap(m) || !in(i, 0, n[m]) ? -2 : led[m][i];
  }

  int copy(int from, int to) {
    if (noMap(from) || noMap(to)) {
      return -2;
    }
    n[to] = n[from];
    led[to] = led[from].clone();
    return n[to];
  }

  int turn(int m, int to) {
    if (noMap(m) || noMap(to)) {
      return -2;
    }
    int[] turned = new int[n[m] + 1];
    for (int i = 0; i <= n[m]; i++) {
      turned[i] = n[m] - led[m][n[m] - i];
    }
    n[to] = n[m];
    led[to] = turned;
    return n[to];
  }

  int slope(int m, int i) {
    return noMap(m) || !in(i, 0, n[m] - 1) ? -100 : led[m][i + 1] - led[m][i];
  }

  private int span(int m, Fraction x) {
    return (int) Math.min(x.floor(), n[m] - 1);
  }

  private Fraction at(int m, Fraction x) {
    int i = span(m, x);
    Fraction high = x.minus(Fraction.whole(i));
    Fraction low = Fraction.whole(1).minus(high);
    return low.times(Fraction.whole(led[m][i])).plus(high.times(Fraction.whole(led[m][i + 1])));
  }

  private Fraction after(int m, Fraction x, int k) {
    Fraction y = x;
    for (int i = 0; i < k; i++) {
      y = at(m, y);
    }
    return y;
  }

  private static long told(Fraction x, int what) {
    return what == 0 ? x.above() : x.below();
  }

  long far(int m, long a, long b, int k, int what) {
    if (noMap(m) || noPoint(m, a, b) || !in(k, 0, 1000) || !in(what, 0, 1)) {
      return -2;
    }
    return told(after(m, Fraction.of(a, b), k), what);
  }

  int word(int m, long a, long b, int i) {
    if (noMap(m) || noPoint(m, a, b) || !in(i, 0, 1000)) {
      return -2;
    }
    return span(m, after(m, Fraction.of(a, b), i));
  }

  private int[] letters(int m, Fraction x, int k) {
    int[] word = new int[k];
    Fraction y = x;
    for (int i = 0; i < k; i++) {
      word[i] = span(m, y);
      y = at(m, y);
    }
    return word;
  }

  int order(int m, long a, long b, long c, long d, int k) {
    if (noMap(m) || noPoint(m, a, b) || noPoint(m, c, d) || !in(k, 0, 1000)) {
      return -2;
    }
    int[] one = letters(m, Fraction.of(a, b), k);
    int[] two = letters(m, Fraction.of(c, d), k);
    int differ = 0;
    while (differ < k && one[differ] == two[differ]) {
      differ++;
    }
    if (differ == k) {
      return 0;
    }
    int falling = 0;
    for (int i = 0; i < differ; i++) {
      int slope = slope(m, one[i]);
      if (slope == 0) {
        return 0;
      }
      falling += slope < 0 ? 1 : 0;
    }
    boolean firstAhead = (one[differ] < two[differ]) == (falling % 2 == 0);
    return firstAhead ? -1 : 1;
  }

  long join(int m, int other, long a, long b, int what) {
    if (noMap(m) || noMap(other) || noPoint(m, a, b) || !in(what, 0, 1)) {
      return -2;
    }
    return n[m] != n[other] ? -3 : told(at(other, at(m, Fraction.of(a, b))), what);
  }

  int table(int m, int i, int j) {
    if (noMap(m) || !in(i, 0, n[m] - 1) || !in(j, 0, n[m] - 1)) {
      return -2;
    }
    int p = led[m][i];
    int q = led[m][i + 1];
    return (p <= j && q >= j + 1) || (q <= j && p >= j + 1) ? 1 : 0;
  }

  /** Hands on, step by step, how many ways have come to each span. */
  private long[] waysFrom(int m, int i, int k) {
    long[] ways = new long[n[m]];
    ways[i] = 1;
    for (int step = 0; step < k; step++) {
      long[] next = new long[n[m]];
      for (int p = 0; p < n[m]; p++) {
        for (int q = 0; q < n[m]; q++) {
          next[q] += ways[p] * table(m, p, q);
        }
      }
      ways = next;
    }
    return ways;
  }

  long ways(int m, int i, int j, int k) {
    if (noMap(m) || !in(i, 0, n[m] - 1) || !in(j, 0, n[m] - 1) || !in(k, 0, 10)) {
      return -2;
    }
    return waysFrom(m, i, k)[j];
  }

  long pieces(int m, int k) {
    if (noMap(m) || !in(k, 0, 10)) {
      return -2;
    }
    long all = 0;
    for (int i = 0; i < n[m]; i++) {
      for (long w : waysFrom(m, i, k)) {
        all += w;
      }
    }
    return all;
  }

  private boolean leads(int m, int i, int j) {
    for (int k = 0; k <= 8; k++) {
      if (waysFrom(m, i, k)[j] > 0) {
        return true;
      }
    }
    return false;
  }

  int part(int m, int i) {
    if (noMap(m) || !in(i, 0, n[m] - 1)) {
      return -2;
    }
    int j = 0;
    while (j < i && !(leads(m, i, j) && leads(m, j, i))) {
      j++;
    }
    return j;
  }

  int mixes(int m) {
    if (noMap(m)) {
      return -2;
    }
    for (int k = 1; k <= 20; k++) {
      boolean all = true;
      for (int i = 0; i < n[m]; i++) {
        for (long w : waysFrom(m, i, k)) {
          all &= w > 0;
        }
      }
      if (all) {
        return k;
      }
    }
    return -1;
  }

  /** A corner of the line that k steps draw. */
  private record Bend(Fraction x, Fraction y) {
  }

  private List<Bend> line(int m, int k) {
    List<Bend> bends = new ArrayList<>();
    for (int i = 0; i <= n[m]; i++) {
      bends.add(new Bend(Fraction.whole(i), Fraction.whole(led[m][i])));
    }
    for (int step = 1; step < k; step++) {
      List<Bend> next = new ArrayList<>();
      for (Bend bend : cutAtWholes(bends)) {
        next.add(new Bend(bend.x, at(m, bend.y)));
      }
      bends = next;
    }
    return bends;
  }

  private static List<Bend> cutAtWholes(List<Bend> bends) {
    List<Bend> cut = new ArrayList<>();
    for (int i = 0; i + 1 < bends.size(); i++) {
      Bend from = bends.get(i);
      Bend to = bends.get(i + 1);
      long start = from.y.above();
      long end = to.y.above();
      cut.add(from);
      long way = Long.signum(end - start);
      for (long y = start + way; way != 0 && y != end; y += way) {
        Fraction share = Fraction.of(y - start, end - start);
        cut.add(new Bend(from.x.plus(to.x.minus(from.x).times(share)), Fraction.whole(y)));
      }
    }
    cut.add(bends.get(bends.size() - 1));
    return cut;
  }

  /** All points that come back in k steps: those that stand alone, and some of each span. */
  private static final class Back {
    final TreeSet<Fraction> alone = new TreeSet<>();
    final List<Fraction> ofSpans = new ArrayList<>();
  }

  private Back back(int m, int k) {
    Back back = new Back();
    List<Bend> bends = line(m, k);
    for (int i = 0; i + 1 < bends.size(); i++) {
      Bend from = bends.get(i);
      Bend to = bends.get(i + 1);
      Fraction gapFrom = from.y.minus(from.x);
      Fraction gapTo = to.y.minus(to.x);
      Fraction width = to.x.minus(from.x);
      if (gapFrom.above() == 0 && gapTo.above() == 0) {
        // At most one point for each lesser number of steps is not like the others: 9 are plenty.
        for (int s = 1; s <= 9; s++) {
          back.ofSpans.add(from.x.plus(width.times(Fraction.of(s, 10))));
        }
      }
      if (Long.signum(gapFrom.above()) * Long.signum(gapTo.above()) <= 0) {
        Fraction fall = gapFrom.minus(gapTo);
        Fraction share = fall.above() == 0 ? Fraction.whole(0) : gapFrom.by(fall);
        back.alone.add(from.x.plus(width.times(share)));
        if (fall.above() == 0) {
          back.alone.add(to.x);
        }
      }
    }
    return back;
  }

  private int leastSteps(int m, Fraction x) {
    Fraction y = at(m, x);
    int k = 1;
    while (k <= 6 && !y.equals(x)) {
      y = at(m, y);
      k++;
    }
    return k;
  }

  int rounds(int m, int k) {
    if (noMap(m) || !in(k, 1, 6)) {
      return -2;
    }
    Back back = back(m, k);
    return back.ofSpans.isEmpty() ? back.alone.size() : -1;
  }

  /** All rounds of k as they rise, or null if they are endless. */
  List<Fraction> allRounds(int m, int k) {
    Back back = back(m, k);
    return back.ofSpans.isEmpty() ? new ArrayList<>(back.alone) : null;
  }

  long round(int m, int k, int i, int what) {
    if (noMap(m) || !in(k, 1, 6) || i < 0 || !in(what, 0, 1)) {
      return -2;
    }
    List<Fraction> all = allRounds(m, k);
    return all == null || i >= all.size() ? -1 : told(all.get(i), what);
  }

  int period(int m, int k) {
    if (noMap(m) || !in(k, 1, 6)) {
      return -2;
    }
    Back back = back(m, k);
    if (!back.ofSpans.isEmpty()) {
      return -1;
    }
    int count = 0;
    for (Fraction x : back.alone) {
      count += leastSteps(m, x) == k ? 1 : 0;
    }
    return count;
  }

  int has(int m, int k) {
    if (noMap(m) || !in(k, 1, 6)) {
      return -2;
    }
    Back back = back(m, k);
    for (Fraction x : back.alone) {
      if (leastSteps(m, x) == k) {
        return 1;
      }
    }
    for (Fraction x : back.ofSpans) {
      if (leastSteps(m, x) == k) {
        return 1;
      }
    }
    return 0;
  }

  private static List<Integer> forcingOrder() {
    List<Integer> order = new ArrayList<>();
    for (int twos = 1; twos <= 64; twos *= 2) {
      for (int odd = 3; odd * twos <= 64; odd += 2) {
        order.add(odd * twos);
      }
    }
    for (int twos = 64; twos >= 1; twos /= 2) {
      order.add(twos);
    }
    return order;
  }

  int forces(int p, int q) {
    if (!in(p, 1, 64) || !in(q, 1, 64)) {
      return -2;
    }
    List<Integer> order = forcingOrder();
    return order.indexOf(p) <= order.indexOf(q) ? 1 : 0;
  }

  int most(int m) {
    if (noMap(m)) {
      return -2;
    }
    for (int k = 1; k <= 6; k++) {
      boolean all = has(m, k) == 1;
      for (int other = 1; other <= 6 && all; other++) {
        all = has(m, other) == 0 || forces(k, other) == 1;
      }
      if (all) {
        return k;
      }
    }
    throw new IllegalStateException("no number forces the others");
  }

  int top(int m) {
    if (noMap(m)) {
      return -2;
    }
    for (int c = 1; c < n[m]; c++) {
      boolean is = true;
      for (int i = 0; i < n[m]; i++) {
        is &= i < c ? slope(m, i) > 0 : slope(m, i) < 0;
      }
      if (is) {
        return c;
      }
    }
    return -1;
  }

  int topWord(int m, int i) {
    if (noMap(m) || !in(i, 1, 1000)) {
      return -2;
    }
    int c = top(m);
    if (c == -1) {
      return -3;
    }
    long at = after(m, Fraction.whole(c), i).above();
    return at < c ? 0 : at == c ? 1 : 2;
  }

  int topRound(int m, int what) {
    if (noMap(m) || !in(what, 0, 1)) {
      return -2;
    }
    int c = top(m);
    if (c == -1) {
      return -3;
    }
    List<Integer> way = new ArrayList<>();
    int at = c;
    while (!way.contains(at)) {
      way.add(at);
      at = led[m][at];
    }
    int ahead = way.indexOf(at);
    return what == 0 ? ahead : way.size() - ahead;
  }

  long digest() {
    long h = 167;
    for (int m = 0; m < 8; m++) {
      h = 31 * h + n[m];
      for (int v : led[m]) {
        h = 31 * h + v;
      }
    }
    return h;
  }
}
