/**
 * Eight maps of a span, each folded on to itself by straight pieces whose corners are led to
 * corners, followed exactly in fractions. No call makes an object: all rows are made here once.
 */
public final class SpanMaps {
  public static final int NONE = -1, BAD = -2, NO = -3;

  private static final int MAPS = 8;
  private static final int MOST_PIECES = 5;
  private static final int BAD_SLOPE = -100;
  private static final long MOST_BELOW = 100000L;
  private static final int MOST_STEPS = 1000;
  private static final int MOST_WAY = 10;
  private static final int MOST_ROUND = 6;
  private static final int MOST_FORCING = 64;
  // Five spans that mix at all do so within (5 - 1)^2 + 1 = 17 steps; the rest is room.
  private static final int MIXING_STEPS = 64;
  // Euclid needs fewer than a hundred divisions for any two longs.
  private static final int DIVISIONS = 100;
  private static final long DIGEST_START = 167L;

  private final Fold[] folds;
  private final Powers powers;
  private final Returns returns;

  public SpanMaps() {
    folds = new Fold[MAPS];
    for (int m = 0; m < MAPS; m++) {
      folds[m] = new Fold();
    }
    powers = new Powers();
    returns = new Returns();
  }

  public int map(int m, int n) {
    if (!isMap(m) || n < 1 || n > MOST_PIECES) {
      return BAD;
    }
    folds[m].flatten(n);
    return 1;
  }

  public int corner(int m, int i, int v) {
    if (!isMap(m) || !folds[m].hasCorner(i) || !folds[m].hasCorner(v)) {
      return BAD;
    }
    int before = folds[m].led[i];
    folds[m].led[i] = v;
    return before;
  }

  public int cornerAt(int m, int i) {
    if (!isMap(m) || !folds[m].hasCorner(i)) {
      return BAD;
    }
    return folds[m].led[i];
  }

  public int copy(int from, int to) {
    if (!isMap(from) || !isMap(to)) {
      return BAD;
    }
    folds[to].become(folds[from]);
    return folds[to].pieces;
  }

  public int turn(int m, int to) {
    if (!isMap(m) || !isMap(to)) {
      return BAD;
    }
    folds[to].becomeTurned(folds[m]);
    return folds[to].pieces;
  }

  public int slope(int m, int i) {
    if (!isMap(m) || !folds[m].hasSpan(i)) {
      return BAD_SLOPE;
    }
    return folds[m].slopeOf(i);
  }

  public long far(int m, long a, long b, int k, int what) {
    if (!isMap(m) || !folds[m].hasPoint(a, b) || !isStepCount(k) || !isTerm(what)) {
      return BAD;
    }
    return lowestTerm(folds[m].follow(a, b, k), b, what);
  }

  public int word(int m, long a, long b, int i) {
    if (!isMap(m) || !folds[m].hasPoint(a, b) || !isStepCount(i)) {
      return BAD;
    }
    return folds[m].spanOf(folds[m].follow(a, b, i), b);
  }

  public int order(int m, long a, long b, long c, long d, int k) {
    if (!isMap(m) || !folds[m].hasPoint(a, b) || !folds[m].hasPoint(c, d) || !isStepCount(k)) {
      return BAD;
    }
    return folds[m].twistedOrder(a, b, c, d, k);
  }

  public long join(int m, int other, long a, long b, int what) {
    if (!isMap(m) || !isMap(other) || !folds[m].hasPoint(a, b) || !isTerm(what)) {
      return BAD;
    }
    if (folds[m].pieces != folds[other].pieces) {
      return NO;
    }
    return lowestTerm(folds[other].step(folds[m].step(a, b), b), b, what);
  }

  public int table(int m, int i, int j) {
    if (!isMap(m) || !folds[m].hasSpan(i) || !folds[m].hasSpan(j)) {
      return BAD;
    }
    return folds[m].leadsOver(i, j) ? 1 : 0;
  }

  public long ways(int m, int i, int j, int k) {
    if (!isMap(m) || !folds[m].hasSpan(i) || !folds[m].hasSpan(j) || !isWayLength(k)) {
      return BAD;
    }
    powers.raise(folds[m], k);
    return powers.between(i, j, k);
  }

  public long pieces(int m, int k) {
    if (!isMap(m) || !isWayLength(k)) {
      return BAD;
    }
    powers.raise(folds[m], k);
    return powers.sum(k);
  }

  public int part(int m, int i) {
    if (!isMap(m) || !folds[m].hasSpan(i)) {
      return BAD;
    }
    return folds[m].leastOfPart(i);
  }

  public int mixes(int m) {
    if (!isMap(m)) {
      return BAD;
    }
    return folds[m].stepsToMix();
  }

  public int rounds(int m, int k) {
    if (!isMap(m) || !isRoundLength(k)) {
      return BAD;
    }
    returns.study(folds[m]);
    return returns.isEndless(k) ? NONE : (int) returns.countAll(k);
  }

  public long round(int m, int k, int i, int what) {
    if (!isMap(m) || !isRoundLength(k) || i < 0 || !isTerm(what)) {
      return BAD;
    }
    returns.study(folds[m]);
    if (returns.isEndless(k) || !returns.find(folds[m], k, i)) {
      return NONE;
    }
    return lowestTerm(returns.foundAbove, returns.foundBelow, what);
  }

  public int period(int m, int k) {
    if (!isMap(m) || !isRoundLength(k)) {
      return BAD;
    }
    returns.study(folds[m]);
    return returns.isEndless(k) ? NONE : (int) returns.countNew(k);
  }

  public int has(int m, int k) {
    if (!isMap(m) || !isRoundLength(k)) {
      return BAD;
    }
    returns.study(folds[m]);
    return returns.hasNew(k) ? 1 : 0;
  }

  public int forces(int p, int q) {
    if (!isForcing(p) || !isForcing(q)) {
      return BAD;
    }
    return p == q || comesAhead(p, q) ? 1 : 0;
  }

  public int most(int m) {
    if (!isMap(m)) {
      return BAD;
    }
    returns.study(folds[m]);
    int first = 1;
    for (int k = 2; k <= MOST_ROUND; k++) {
      if (returns.hasNew(k) && comesAhead(k, first)) {
        first = k;
      }
    }
    return first;
  }

  public int top(int m) {
    if (!isMap(m)) {
      return BAD;
    }
    return folds[m].findTop();
  }

  public int topWord(int m, int i) {
    if (!isMap(m) || i < 1 || i > MOST_STEPS) {
      return BAD;
    }
    int c = folds[m].findTop();
    if (c == NONE) {
      return NO;
    }
    int at = folds[m].cornerAfter(c, i);
    if (at == c) {
      return 1;
    }
    return at < c ? 0 : 2;
  }

  public int topRound(int m, int what) {
    if (!isMap(m) || !isTerm(what)) {
      return BAD;
    }
    int c = folds[m].findTop();
    if (c == NONE) {
      return NO;
    }
    int ahead = folds[m].stepsAheadOfRound(c);
    return what == 0 ? ahead : folds[m].stepsOfRound(folds[m].cornerAfter(c, ahead));
  }

  public long digest() {
    long h = DIGEST_START;
    for (int m = 0; m < MAPS; m++) {
      Fold fold = folds[m];
      h = 31L * h + fold.pieces;
      for (int i = 0; i <= fold.pieces; i++) {
        h = 31L * h + fold.led[i];
      }
    }
    return h;
  }

  private static boolean isMap(int m) {
    return m >= 0 && m < MAPS;
  }

  private static boolean isTerm(int what) {
    return what == 0 || what == 1;
  }

  private static boolean isStepCount(int k) {
    return k >= 0 && k <= MOST_STEPS;
  }

  private static boolean isWayLength(int k) {
    return k >= 0 && k <= MOST_WAY;
  }

  private static boolean isRoundLength(int k) {
    return k >= 1 && k <= MOST_ROUND;
  }

  private static boolean isForcing(int p) {
    return p >= 1 && p <= MOST_FORCING;
  }

  private static boolean divides(int d, int k) {
    return d > 0 && k % d == 0;
  }

  private static long lowestTerm(long a, long b, int what) {
    long common = commonDivisor(a, b);
    if (common == 0L) {
      return 0L;
    }
    return (what == 0 ? a : b) / common;
  }

  private static long commonDivisor(long a, long b) {
    long x = a;
    long y = b;
    for (int i = 0; i < DIVISIONS && y != 0L; i++) {
      long rest = x % y;
      x = y;
      y = rest;
    }
    return x;
  }

  private static boolean comesAhead(int p, int q) {
    int oddOfP = oddPart(p);
    int oddOfQ = oddPart(q);
    if (oddOfP == 1 && oddOfQ == 1) {
      return p > q;
    }
    if (oddOfP == 1 || oddOfQ == 1) {
      return oddOfQ == 1;
    }
    int twosOfP = p & -p;
    int twosOfQ = q & -q;
    return twosOfP == twosOfQ ? oddOfP < oddOfQ : twosOfP < twosOfQ;
  }

  private static int oddPart(int p) {
    int odd = p;
    for (int i = 0; i < MOST_FORCING && odd % 2 == 0; i++) {
      odd /= 2;
    }
    return odd;
  }

  /** One map. Corners beyond its pieces are never looked at. */
  private static final class Fold {
    int pieces = 1;
    final int[] led = new int[MOST_PIECES + 1];

    void flatten(int n) {
      pieces = n;
      for (int i = 0; i <= MOST_PIECES; i++) {
        led[i] = 0;
      }
    }

    void become(Fold other) {
      pieces = other.pieces;
      for (int i = 0; i <= MOST_PIECES; i++) {
        led[i] = other.led[i];
      }
    }

    /** Both ends of a pair are read ahead of writing them, since the other may be this one. */
    void becomeTurned(Fold other) {
      int n = other.pieces;
      for (int low = 0; low <= n - low; low++) {
        int high = n - low;
        int atLow = n - other.led[high];
        int atHigh = n - other.led[low];
        led[low] = atLow;
        led[high] = atHigh;
      }
      pieces = n;
    }

    boolean hasCorner(int i) {
      return i >= 0 && i <= pieces;
    }

    boolean hasSpan(int i) {
      return i >= 0 && i < pieces;
    }

    boolean hasPoint(long a, long b) {
      return b >= 1L && b <= MOST_BELOW && a >= 0L && a <= pieces * b;
    }

    int slopeOf(int i) {
      return led[i + 1] - led[i];
    }

    int spanOf(long a, long b) {
      if (b <= 0L) {
        return 0;
      }
      return (int) Math.max(0L, Math.min(a / b, pieces - 1L));
    }

    /** Slopes and corners are whole, so b is left as it was and only a is told. */
    long step(long a, long b) {
      int i = spanOf(a, b);
      return led[i] * b + slopeOf(i) * (a - i * b);
    }

    long follow(long a, long b, int k) {
      long x = a;
      for (int i = 0; i < k; i++) {
        x = step(x, b);
      }
      return x;
    }

    int twistedOrder(long a, long b, long c, long d, int letters) {
      int lesser = -1;
      long x = a;
      long y = c;
      for (int i = 0; i < letters; i++) {
        int p = spanOf(x, b);
        int q = spanOf(y, d);
        if (p != q) {
          return p < q ? lesser : -lesser;
        }
        int slope = slopeOf(p);
        if (slope == 0) {
          return 0;
        }
        lesser = slope < 0 ? -lesser : lesser;
        x = step(x, b);
        y = step(y, d);
      }
      return 0;
    }

    boolean leadsOver(int i, int j) {
      return Math.min(led[i], led[i + 1]) <= j && j < Math.max(led[i], led[i + 1]);
    }

    int allSpans() {
      return (1 << pieces) - 1;
    }

    /** Sets of spans are bits of a number: all spans that one step leads over. */
    int spansAfter(int spans) {
      int after = 0;
      for (int i = 0; i < pieces; i++) {
        if ((spans >> i & 1) == 1) {
          after |= (1 << Math.max(led[i], led[i + 1])) - (1 << Math.min(led[i], led[i + 1]));
        }
      }
      return after;
    }

    boolean wayLeads(int i, int j) {
      int reached = 1 << i;
      for (int k = 0; k < pieces; k++) {
        reached |= spansAfter(reached);
      }
      return (reached >> j & 1) == 1;
    }

    int leastOfPart(int i) {
      for (int j = 0; j < i; j++) {
        if (wayLeads(i, j) && wayLeads(j, i)) {
          return j;
        }
      }
      return i;
    }

    /**
     * A span that leads to all in k steps does so in k + 1 too: then each span is led over by
     * some span. So the slowest span tells for the map.
     */
    int stepsToMix() {
      int slowest = 0;
      for (int i = 0; i < pieces; i++) {
        int steps = stepsToAll(i);
        if (steps == NONE) {
          return NONE;
        }
        slowest = Math.max(slowest, steps);
      }
      return slowest;
    }

    int stepsToAll(int i) {
      int reached = 1 << i;
      for (int k = 1; k <= MIXING_STEPS; k++) {
        reached = spansAfter(reached);
        if (reached == allSpans()) {
          return k;
        }
      }
      return NONE;
    }

    int cornerAfter(int i, int k) {
      int x = i;
      for (int j = 0; j < k; j++) {
        x = led[x];
      }
      return x;
    }

    /** How many steps till a corner comes back for the first time; 0 if it never does. */
    int stepsOfRound(int i) {
      int x = i;
      for (int k = 1; k <= pieces + 1; k++) {
        x = led[x];
        if (x == i) {
          return k;
        }
      }
      return 0;
    }

    int stepsAheadOfRound(int i) {
      int x = i;
      int steps = 0;
      while (steps <= pieces && stepsOfRound(x) == 0) {
        x = led[x];
        steps++;
      }
      return steps;
    }

    int findTop() {
      int c = 0;
      while (c < pieces && slopeOf(c) > 0) {
        c++;
      }
      for (int i = c; i < pieces; i++) {
        if (slopeOf(i) >= 0) {
          return NONE;
        }
      }
      return c > 0 && c < pieces ? c : NONE;
    }

    /**
     * Edge 2 i is the low end of span i seen from inside that span, edge 2 i + 1 its high end.
     * Which side an edge is seen from goes along with the map, unless the slope is 0.
     */
    int nextEdge(int edge) {
      int i = edge / 2;
      boolean low = edge % 2 == 0;
      int corner = low ? led[i] : led[i + 1];
      boolean rises = slopeOf(i) > 0;
      return low == rises ? 2 * corner : 2 * corner - 1;
    }
  }

  /** The powers of a map's table; the rows serve for every call. */
  private static final class Powers {
    private final long[][] rows = new long[MOST_WAY + 1][MOST_PIECES * MOST_PIECES];
    private int spans = 1;

    void raise(Fold fold, int most) {
      spans = fold.pieces;
      for (int i = 0; i < spans; i++) {
        for (int j = 0; j < spans; j++) {
          rows[0][i * MOST_PIECES + j] = i == j ? 1L : 0L;
        }
      }
      for (int k = 1; k <= most && k <= MOST_WAY; k++) {
        multiply(fold, k);
      }
    }

    private void multiply(Fold fold, int k) {
      for (int i = 0; i < spans; i++) {
        for (int j = 0; j < spans; j++) {
          long total = 0L;
          for (int by = 0; by < spans; by++) {
            total += fold.leadsOver(i, by) ? between(by, j, k - 1) : 0L;
          }
          rows[k][i * MOST_PIECES + j] = total;
        }
      }
    }

    long between(int i, int j, int k) {
      return rows[k][i * MOST_PIECES + j];
    }

    long sum(int k) {
      long total = 0L;
      for (int i = 0; i < spans; i++) {
        for (int j = 0; j < spans; j++) {
          total += between(i, j, k);
        }
      }
      return total;
    }

    long closed(int k) {
      long total = 0L;
      for (int i = 0; i < spans; i++) {
        total += between(i, i, k);
      }
      return total;
    }
  }

  /**
   * Counts the points that come back. A closed way of k steps is walked by just one point that
   * comes back in k steps, or by a whole span of them if all its slopes are 1 or -1 and turn it
   * about an even number of times. That one point is either inside its spans, and then no other
   * way has it, or it is a corner, and then an edge comes back by the way. So corners that come
   * back, closed ways, less edges that come back, make up all points.
   */
  private static final class Returns {
    private final Powers powers = new Powers();
    private final int[] cornerPeriod = new int[MOST_PIECES + 1];
    private final int[] edgePeriod = new int[2 * MOST_PIECES];
    private final boolean[] edgeStill = new boolean[2 * MOST_PIECES];
    private final long[] newWays = new long[MOST_ROUND + 1];
    private int spans = 1;
    private long toPass;
    long foundAbove;
    long foundBelow = 1L;

    void study(Fold fold) {
      spans = fold.pieces;
      powers.raise(fold, MOST_ROUND);
      for (int i = 0; i <= spans; i++) {
        cornerPeriod[i] = fold.stepsOfRound(i);
      }
      for (int edge = 0; edge < 2 * spans; edge++) {
        studyEdge(fold, edge);
      }
      for (int k = 1; k <= MOST_ROUND; k++) {
        newWays[k] = powers.closed(k);
        for (int d = 1; d < k; d++) {
          newWays[k] -= divides(d, k) ? newWays[d] : 0L;
        }
      }
    }

    /** An edge is still if the steps that bring it back leave all points of its span in place. */
    private void studyEdge(Fold fold, int edge) {
      edgePeriod[edge] = 0;
      edgeStill[edge] = false;
      boolean still = true;
      int at = edge;
      for (int k = 1; k <= MOST_ROUND; k++) {
        int slope = fold.slopeOf(at / 2);
        if (slope == 0) {
          return;
        }
        still = still && Math.abs(slope) == 1;
        at = fold.nextEdge(at);
        if (at == edge) {
          edgePeriod[edge] = k;
          edgeStill[edge] = still;
          return;
        }
      }
    }

    boolean isEndless(int k) {
      for (int edge = 0; edge < 2 * spans; edge++) {
        if (edgeStill[edge] && divides(edgePeriod[edge], k)) {
          return true;
        }
      }
      return false;
    }

    /** Points with the period k, unless a still edge has this period. */
    long countNew(int k) {
      long count = newWays[k];
      for (int i = 0; i <= spans; i++) {
        count += cornerPeriod[i] == k ? 1L : 0L;
      }
      for (int edge = 0; edge < 2 * spans; edge++) {
        count -= edgePeriod[edge] == k ? 1L : 0L;
      }
      return count;
    }

    long countAll(int k) {
      long count = 0L;
      for (int d = 1; d <= k; d++) {
        count += divides(d, k) ? countNew(d) : 0L;
      }
      return count;
    }

    boolean hasNew(int k) {
      for (int edge = 0; edge < 2 * spans; edge++) {
        if (edgeStill[edge] && edgePeriod[edge] == k) {
          return true;
        }
      }
      return countNew(k) > 0L;
    }

    /** Keeps the index-th point that comes back in k steps, where these are not endless. */
    boolean find(Fold fold, int k, int index) {
      toPass = index;
      for (int i = 0; i <= spans; i++) {
        if (divides(cornerPeriod[i], k)) {
          if (toPass == 0L) {
            return settle(i, 1L);
          }
          toPass--;
        }
        if (i < spans && isInside(i, k)) {
          return walk(fold, k, i);
        }
      }
      return false;
    }

    /**
     * Whether the point that is sought is inside span i; if not, its points are passed. An edge
     * that comes back stands for the span's first or last closed way, the point of which is a
     * corner: the last is left out, and the first is one more to pass.
     */
    private boolean isInside(int i, int k) {
      long first = divides(edgePeriod[2 * i], k) ? 1L : 0L;
      long last = divides(edgePeriod[2 * i + 1], k) ? 1L : 0L;
      long inside = powers.between(i, i, k) - first - last;
      if (toPass < inside) {
        toPass += first;
        return true;
      }
      toPass -= inside;
      return false;
    }

    /**
     * Walks the closed way of k steps from a span that is next behind those to pass, and keeps
     * what it does to a point x: stretch x + shift. The point is the x that this leaves in place.
     */
    private boolean walk(Fold fold, int k, int home) {
      long stretch = 1L;
      long shift = 0L;
      int at = home;
      for (int rest = k - 1; rest >= 0; rest--) {
        int slope = fold.slopeOf(at);
        stretch *= slope;
        shift = slope * shift + fold.led[at] - slope * at;
        at = nextSpan(fold, at, home, rest, stretch > 0L);
        if (at == NONE) {
          return false;
        }
      }
      return settle(shift, 1L - stretch);
    }

    /** As points rise, the spans they are led to rise, or fall if the way so far turns them. */
    private int nextSpan(Fold fold, int at, int home, int rest, boolean rising) {
      for (int t = 0; t < spans; t++) {
        int next = rising ? t : spans - 1 - t;
        long through = fold.leadsOver(at, next) ? powers.between(next, home, rest) : 0L;
        if (toPass < through) {
          return next;
        }
        toPass -= through;
      }
      return NONE;
    }

    private boolean settle(long above, long below) {
      if (below == 0L) {
        return false;
      }
      foundAbove = below < 0L ? -above : above;
      foundBelow = Math.abs(below);
      return true;
    }
  }
}
