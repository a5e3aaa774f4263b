import java.util.Random;

/**
 * Puts the same random runs of 512 calls, right and wrong ones, to SpanMaps and to the slow
 * model. After each call the digests must agree too, so that a refused call changes nothing.
 */
public final class RandomRunsTest {
  private static final int RUNS = 120;
  private static final int CALLS = 512;
  private static final int[] WILD_INTS = {Integer.MIN_VALUE, -1000, -3, -2, 1001, 65, 1 << 30, Integer.MAX_VALUE};
  private static final long[] WILD_LONGS = {Long.MIN_VALUE, -1L << 40, -7, 100001, 500001, 1L << 32, 1L << 62, Long.MAX_VALUE};

  private final Check check = new Check();
  private final Random random;
  private SpanMaps x;
  private SlowMaps y;

  private RandomRunsTest(long seed) {
    random = new Random(seed);
  }

  public static void main(String[] args) {
    RandomRunsTest test = new RandomRunsTest(167);
    for (int run = 0; run < RUNS; run++) {
      test.x = new SpanMaps();
      test.y = new SlowMaps();
      for (int call = 0; call < CALLS; call++) {
        test.call();
        test.check.due("digest", test.x.digest(), test.y.digest());
      }
    }
    test.check.end();
  }

  /** Mostly as told, at times one beyond, seldom wild. */
  private int number(int low, int high) {
    int dice = random.nextInt(60);
    if (dice == 0) {
      return WILD_INTS[random.nextInt(WILD_INTS.length)];
    }
    if (dice == 1) {
      return random.nextBoolean() ? low - 1 : high + 1;
    }
    return low + random.nextInt(high - low + 1);
  }

  private int mapNumber() {
    return random.nextInt(4) == 0 ? number(0, 7) : random.nextInt(3);
  }

  private long below() {
    int dice = random.nextInt(60);
    if (dice == 0) {
      return WILD_LONGS[random.nextInt(WILD_LONGS.length)];
    }
    if (dice < 4) {
      return new long[] {0, 1, 100000, 100001}[random.nextInt(4)];
    }
    return 1 + random.nextInt(random.nextBoolean() ? 12 : 100000);
  }

  private long above(int m, long b) {
    int dice = random.nextInt(60);
    if (dice == 0) {
      return WILD_LONGS[random.nextInt(WILD_LONGS.length)];
    }
    long most = pieceCount(m) * Math.max(1, Math.min(b, 100000));
    if (dice < 6) {
      return new long[] {-1, 0, most, most + 1, b}[dice - 1];
    }
    return Math.floorMod(random.nextLong(), most + 1);
  }

  private int pieceCount(int m) {
    int i = 0;
    while (y.cornerAt(m, i) >= 0) {
      i++;
    }
    return Math.max(1, i - 1);
  }

  private void call() {
    int m = mapNumber();
    int n = pieceCount(m);
    switch (random.nextInt(6)) {
      case 0 -> change(m, n);
      case 1 -> points(m);
      case 2 -> tables(m, n);
      case 3 -> rounds(m);
      case 4 -> tops(m);
      default -> {
        int i = number(0, n);
        int v = number(0, n);
        check.due("corner", x.corner(m, i, v), y.corner(m, i, v));
      }
    }
  }

  private void change(int m, int n) {
    int other = mapNumber();
    switch (random.nextInt(8)) {
      case 0 -> {
        int pieces = number(1, 5);
        check.due("map " + m + " " + pieces, x.map(m, pieces), y.map(m, pieces));
      }
      case 1 -> check.due("copy " + m + " " + other, x.copy(m, other), y.copy(m, other));
      case 2 -> check.due("turn " + m + " " + other, x.turn(m, other), y.turn(m, other));
      default -> {
        int i = number(0, n);
        check.due("cornerAt " + m + " " + i, x.cornerAt(m, i), y.cornerAt(m, i));
      }
    }
  }

  private void points(int m) {
    long b = below();
    long a = above(m, b);
    int k = number(0, random.nextBoolean() ? 8 : 1000);
    int what = number(0, 1);
    switch (random.nextInt(4)) {
      case 0 -> check.due("far " + m + " " + a + " " + b + " " + k + " " + what,
          x.far(m, a, b, k, what), y.far(m, a, b, k, what));
      case 1 -> check.due("word " + m + " " + a + " " + b + " " + k, x.word(m, a, b, k), y.word(m, a, b, k));
      case 2 -> {
        long d = below();
        long c = above(m, d);
        check.due("order " + m + " " + a + " " + b + " " + c + " " + d + " " + k,
            x.order(m, a, b, c, d, k), y.order(m, a, b, c, d, k));
      }
      default -> {
        int other = mapNumber();
        check.due("join " + m + " " + other + " " + a + " " + b + " " + what,
            x.join(m, other, a, b, what), y.join(m, other, a, b, what));
      }
    }
  }

  private void tables(int m, int n) {
    int i = number(0, n - 1);
    int j = number(0, n - 1);
    int k = number(0, 10);
    switch (random.nextInt(6)) {
      case 0 -> check.due("slope " + m + " " + i, x.slope(m, i), y.slope(m, i));
      case 1 -> check.due("table " + m + " " + i + " " + j, x.table(m, i, j), y.table(m, i, j));
      case 2 -> check.due("ways " + m + " " + i + " " + j + " " + k, x.ways(m, i, j, k), y.ways(m, i, j, k));
      case 3 -> check.due("pieces " + m + " " + k, x.pieces(m, k), y.pieces(m, k));
      case 4 -> check.due("part " + m + " " + i, x.part(m, i), y.part(m, i));
      default -> check.due("mixes " + m, x.mixes(m), y.mixes(m));
    }
  }

  private void rounds(int m) {
    int k = number(1, 6);
    switch (random.nextInt(6)) {
      case 0 -> check.due("rounds " + m + " " + k, x.rounds(m, k), y.rounds(m, k));
      case 1 -> {
        int i = number(0, 12);
        int what = number(0, 1);
        check.due("round " + m + " " + k + " " + i + " " + what, x.round(m, k, i, what), y.round(m, k, i, what));
      }
      case 2 -> check.due("period " + m + " " + k, x.period(m, k), y.period(m, k));
      case 3 -> check.due("has " + m + " " + k, x.has(m, k), y.has(m, k));
      case 4 -> {
        int p = number(1, 64);
        int q = number(1, 64);
        check.due("forces " + p + " " + q, x.forces(p, q), y.forces(p, q));
      }
      default -> check.due("most " + m, x.most(m), y.most(m));
    }
  }

  private void tops(int m) {
    int i = number(1, random.nextBoolean() ? 6 : 1000);
    int what = number(0, 1);
    check.due("top " + m, x.top(m), y.top(m));
    check.due("topWord " + m + " " + i, x.topWord(m, i), y.topWord(m, i));
    check.due("topRound " + m + " " + what, x.topRound(m, what), y.topRound(m, what));
  }
}
