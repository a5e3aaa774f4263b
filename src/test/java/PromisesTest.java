/** Each promise of the document by hand: ordinary inputs, the edges it names, wrong inputs. */
public final class PromisesTest {
  private static final int LOW = Integer.MIN_VALUE;
  private static final int HIGH = Integer.MAX_VALUE;

  private final Check check = new Check();

  public static void main(String[] args) {
    PromisesTest test = new PromisesTest();
    test.promise1NewObject();
    test.promise2Map();
    test.promise3Corner();
    test.promise4CornerAt();
    test.promise5Copy();
    test.promise6Turn();
    test.promise7Slope();
    test.promise8Far();
    test.promise9Word();
    test.promise10Order();
    test.promise11Join();
    test.promise12Table();
    test.promise13Ways();
    test.promise14Pieces();
    test.promise15Part();
    test.promise16Mixes();
    test.promise17Rounds();
    test.promise18Round();
    test.promise19Period();
    test.promise20Has();
    test.promise21Forces();
    test.promise22Most();
    test.promise23Top();
    test.promise24TopWord();
    test.promise25TopRound();
    test.promise26Digest();
    test.check.end();
  }

  /** A new object whose map m has its corners led as told. */
  private static SpanMaps with(int m, int... led) {
    SpanMaps x = new SpanMaps();
    lead(x, m, led);
    return x;
  }

  private static void lead(SpanMaps x, int m, int... led) {
    x.map(m, led.length - 1);
    for (int i = 0; i < led.length; i++) {
      x.corner(m, i, led[i]);
    }
  }

  private void ledTo(String name, SpanMaps x, int m, int... led) {
    for (int i = 0; i < led.length; i++) {
      check.due(name + ": cornerAt " + i, x.cornerAt(m, i), led[i]);
    }
    check.due(name + ": no corner more", x.cornerAt(m, led.length), -2);
  }

  private void unchanged(String name, SpanMaps x, long before) {
    check.due(name + ": refused, yet digest changed", x.digest(), before);
  }

  private void promise1NewObject() {
    SpanMaps x = new SpanMaps();
    for (int m = 0; m < 8; m++) {
      ledTo("new " + m, x, m, 0, 0);
      check.due("new " + m + ": slope", x.slope(m, 0), 0);
    }
    SpanMaps y = new SpanMaps();
    y.map(0, 3);
    ledTo("objects share nothing", x, 0, 0, 0);
  }

  private void promise2Map() {
    SpanMaps x = with(0, 2, 1, 0);
    check.due("map(0, 5)", x.map(0, 5), 1);
    ledTo("map 5", x, 0, 0, 0, 0, 0, 0, 0);
    x.corner(0, 1, 5);
    x.corner(0, 5, 5);
    check.due("map(0, 1)", x.map(0, 1), 1);
    ledTo("map 1", x, 0, 0, 0);
    x.map(0, 5);
    ledTo("old corners do not come back", x, 0, 0, 0, 0, 0, 0, 0);
    check.due("map(7, 2)", x.map(7, 2), 1);
    long before = x.digest();
    for (int n : new int[] {0, 6, -1, LOW, HIGH}) {
      check.due("map(0, " + n + ")", x.map(0, n), -2);
    }
    for (int m : new int[] {-1, 8, LOW, HIGH}) {
      check.due("map(" + m + ", 2)", x.map(m, 2), -2);
    }
    unchanged("map", x, before);
  }

  private void promise3Corner() {
    SpanMaps x = new SpanMaps();
    x.map(7, 3);
    check.due("corner first", x.corner(7, 3, 2), 0);
    check.due("corner again", x.corner(7, 3, 3), 2);
    check.due("corner low", x.corner(7, 0, 1), 0);
    ledTo("corner", x, 7, 1, 0, 0, 3);
    long before = x.digest();
    check.due("corner 4 of 3", x.corner(7, 4, 0), -2);
    check.due("corner -1", x.corner(7, -1, 0), -2);
    check.due("corner to 4", x.corner(7, 0, 4), -2);
    check.due("corner to -1", x.corner(7, 0, -1), -2);
    check.due("corner of map 8", x.corner(8, 0, 0), -2);
    check.due("corner of map -1", x.corner(-1, 0, 0), -2);
    check.due("corner far off", x.corner(7, HIGH, LOW), -2);
    unchanged("corner", x, before);
  }

  private void promise4CornerAt() {
    SpanMaps x = with(3, 4, 0, 3, 1, 2);
    ledTo("cornerAt", x, 3, 4, 0, 3, 1, 2);
    check.due("cornerAt -1", x.cornerAt(3, -1), -2);
    check.due("cornerAt 5 of 4", x.cornerAt(3, 5), -2);
    check.due("cornerAt of map 8", x.cornerAt(8, 0), -2);
    check.due("cornerAt of map -1", x.cornerAt(-1, 0), -2);
    check.due("cornerAt far off", x.cornerAt(3, HIGH), -2);
  }

  private void promise5Copy() {
    SpanMaps x = with(0, 2, 0, 1);
    check.due("copy", x.copy(0, 7), 2);
    ledTo("copy", x, 7, 2, 0, 1);
    x.corner(0, 0, 0);
    ledTo("a copy stands by itself", x, 7, 2, 0, 1);
    check.due("copy on to itself", x.copy(7, 7), 2);
    ledTo("copy on to itself", x, 7, 2, 0, 1);
    lead(x, 2, 5, 4, 3, 2, 1, 5);
    check.due("copy a long one", x.copy(2, 7), 5);
    ledTo("copy a long one", x, 7, 5, 4, 3, 2, 1, 5);
    check.due("copy a small one", x.copy(1, 7), 1);
    ledTo("copy a small one", x, 7, 0, 0);
    long before = x.digest();
    check.due("copy from 8", x.copy(8, 0), -2);
    check.due("copy to 8", x.copy(0, 8), -2);
    check.due("copy from -1", x.copy(-1, 0), -2);
    check.due("copy to -1", x.copy(0, -1), -2);
    unchanged("copy", x, before);
  }

  private void promise6Turn() {
    SpanMaps x = with(0, 0, 3, 1, 1);
    check.due("turn", x.turn(0, 1), 3);
    ledTo("turn", x, 1, 2, 2, 0, 3);
    ledTo("turn leaves the first", x, 0, 0, 3, 1, 1);
    check.due("turn itself, even many corners", x.turn(0, 0), 3);
    ledTo("turn itself, even many corners", x, 0, 2, 2, 0, 3);
    lead(x, 2, 0, 1, 3, 2, 0);
    check.due("turn itself, odd many corners", x.turn(2, 2), 4);
    ledTo("turn itself, odd many corners", x, 2, 4, 2, 1, 3, 4);
    lead(x, 3, 0, 1, 3, 2, 0);
    check.due("turn on to another of more pieces", x.turn(7, 3), 1);
    ledTo("turn on to another of more pieces", x, 3, 1, 1);
    long before = x.digest();
    check.due("turn -1", x.turn(-1, 0), -2);
    check.due("turn 8", x.turn(8, 0), -2);
    check.due("turn to -1", x.turn(0, -1), -2);
    check.due("turn to 8", x.turn(0, 8), -2);
    unchanged("turn", x, before);
  }

  private void promise7Slope() {
    SpanMaps x = with(1, 0, 5, 5, 0, 1, 3);
    int[] due = {5, 0, -5, 1, 2};
    for (int i = 0; i < due.length; i++) {
      check.due("slope " + i, x.slope(1, i), due[i]);
    }
    check.due("slope of piece 5", x.slope(1, 5), -100);
    check.due("slope of piece -1", x.slope(1, -1), -100);
    check.due("slope of map 8", x.slope(8, 0), -100);
    check.due("slope of map -1", x.slope(-1, 0), -100);
  }

  private void promise8Far() {
    SpanMaps x = with(0, 0, 2, 0);
    check.due("far 0 steps a", x.far(0, 6, 4, 0, 0), 3);
    check.due("far 0 steps b", x.far(0, 6, 4, 0, 1), 2);
    check.due("far 1 step a", x.far(0, 5, 3, 1, 0), 2);
    check.due("far 1 step b", x.far(0, 5, 3, 1, 1), 3);
    check.due("far to a whole number: a", x.far(0, 1, 4, 3, 0), 2);
    check.due("far to a whole number: b", x.far(0, 1, 4, 3, 1), 1);
    check.due("far to 0: a", x.far(0, 1, 4, 4, 0), 0);
    check.due("far to 0: b", x.far(0, 1, 4, 4, 1), 1);
    check.due("far of 0: b", x.far(0, 0, 77, 5, 1), 1);
    check.due("far of n", x.far(0, 2, 1, 1, 0), 0);
    check.due("far 1000 steps", x.far(0, 2, 7, 1000, 0), 4);
    check.due("far b 100000", x.far(0, 200000, 100000, 0, 0), 2);
    check.due("far a above n b", x.far(0, 200001, 100000, 0, 0), -2);
    check.due("far b 100001", x.far(0, 1, 100001, 0, 0), -2);
    check.due("far b 0", x.far(0, 0, 0, 0, 0), -2);
    check.due("far b below 0", x.far(0, 0, -1, 0, 0), -2);
    check.due("far a below 0", x.far(0, -1, 1, 0, 0), -2);
    check.due("far 1001 steps", x.far(0, 1, 1, 1001, 0), -2);
    check.due("far -1 steps", x.far(0, 1, 1, -1, 0), -2);
    check.due("far what 2", x.far(0, 1, 1, 1, 2), -2);
    check.due("far what -1", x.far(0, 1, 1, 1, -1), -2);
    check.due("far map 8", x.far(8, 1, 1, 1, 0), -2);
    check.due("far wide numbers", x.far(0, Long.MAX_VALUE, Long.MAX_VALUE, 1, 0), -2);
    check.due("far wide a", x.far(0, 1L << 32, 1, 1, 0), -2);
    check.due("far wide b", x.far(0, 1, (1L << 32) + 1, 1, 0), -2);
  }

  private void promise9Word() {
    SpanMaps x = with(0, 1, 3, 2, 0);
    // 1/4, 3/2, 5/2, 1, 3, 0
    int[] due = {0, 1, 2, 1, 2, 0};
    for (int i = 0; i < due.length; i++) {
      check.due("word letter " + i, x.word(0, 1, 4, i), due[i]);
    }
    check.due("word of a whole number", x.word(0, 1, 1, 0), 1);
    check.due("word of n", x.word(0, 3, 1, 0), 2);
    check.due("word of what is led to n", x.word(0, 1, 1, 1), 2);
    check.due("word letter 1000", x.word(0, 1, 1, 1000), 2);
    check.due("word letter 1001", x.word(0, 1, 1, 1001), -2);
    check.due("word letter -1", x.word(0, 1, 1, -1), -2);
    check.due("word beyond n", x.word(0, 4, 1, 0), -2);
    check.due("word b 0", x.word(0, 0, 0, 0), -2);
    check.due("word b 100001", x.word(0, 1, 100001, 0), -2);
    check.due("word map -1", x.word(-1, 1, 1, 0), -2);
  }

  private void promise10Order() {
    SpanMaps x = with(0, 0, 2, 0);
    check.due("order lesser at once", x.order(0, 1, 3, 5, 3, 1), -1);
    check.due("order greater at once", x.order(0, 5, 3, 1, 3, 1), 1);
    check.due("order of 0 letters", x.order(0, 1, 3, 5, 3, 0), 0);
    check.due("order behind one falling piece", x.order(0, 6, 5, 9, 5, 2), -1);
    check.due("order the other way", x.order(0, 9, 5, 6, 5, 2), 1);
    check.due("order too few letters", x.order(0, 6, 5, 9, 5, 1), 0);
    check.due("order behind two falling pieces", x.order(0, 11, 10, 13, 10, 3), -1);
    check.due("order of a point with itself", x.order(0, 2, 6, 1, 3, 1000), 0);
    SpanMaps flat = with(0, 0, 0, 2, 1);
    check.due("order behind slope 0 differs never", flat.order(0, 1, 3, 2, 3, 9), 0);
    check.due("order at letter 0 with slope 0", flat.order(0, 1, 3, 4, 3, 9), -1);
    check.due("order 1001 letters", x.order(0, 1, 3, 2, 3, 1001), -2);
    check.due("order -1 letters", x.order(0, 1, 3, 2, 3, -1), -2);
    check.due("order first point bad", x.order(0, 7, 3, 2, 3, 1), -2);
    check.due("order second point bad", x.order(0, 1, 3, 7, 3, 1), -2);
    check.due("order second b bad", x.order(0, 1, 3, 0, 0, 1), -2);
    check.due("order map 8", x.order(8, 1, 3, 2, 3, 1), -2);
  }

  private void promise11Join() {
    SpanMaps x = with(0, 0, 2, 0);
    lead(x, 1, 2, 0, 2);
    check.due("join a", x.join(0, 1, 2, 7, 0), 6);
    check.due("join b", x.join(0, 1, 2, 7, 1), 7);
    check.due("join the other way", x.join(1, 0, 2, 7, 0), 8);
    check.due("join lowest terms", x.join(0, 0, 1, 8, 1), 2);
    check.due("join to 0: b", x.join(0, 0, 4, 4, 1), 1);
    check.due("join unlike", x.join(0, 2, 1, 2, 0), -3);
    check.due("join unlike the other way", x.join(2, 0, 1, 2, 0), -3);
    check.due("join BAD ahead of NO: point of the first", x.join(2, 0, 2, 1, 0), -2);
    check.due("join NO where the point is not the second's", x.join(0, 2, 2, 1, 0), -3);
    check.due("join BAD ahead of NO: what", x.join(0, 2, 1, 2, 2), -2);
    check.due("join other 8", x.join(0, 8, 1, 2, 0), -2);
    check.due("join other -1", x.join(0, -1, 1, 2, 0), -2);
    check.due("join map 8", x.join(8, 0, 1, 2, 0), -2);
    check.due("join b 0", x.join(0, 1, 0, 0, 0), -2);
  }

  private void promise12Table() {
    SpanMaps x = with(0, 1, 3, 0, 0);
    int[][] due = {{0, 1, 1}, {1, 1, 1}, {0, 0, 0}};
    for (int i = 0; i < 3; i++) {
      for (int j = 0; j < 3; j++) {
        check.due("table " + i + " " + j, x.table(0, i, j), due[i][j]);
      }
    }
    check.due("table i 3", x.table(0, 3, 0), -2);
    check.due("table j 3", x.table(0, 0, 3), -2);
    check.due("table i -1", x.table(0, -1, 0), -2);
    check.due("table j -1", x.table(0, 0, -1), -2);
    check.due("table map 8", x.table(8, 0, 0), -2);
  }

  private void promise13Ways() {
    SpanMaps x = with(0, 1, 2, 0);
    check.due("ways of 0 steps to itself", x.ways(0, 1, 1, 0), 1);
    check.due("ways of 0 steps to another", x.ways(0, 1, 0, 0), 0);
    long[] due = {1, 1, 2, 3, 5, 8, 13, 21, 34, 55, 89};
    for (int k = 0; k <= 10; k++) {
      check.due("ways of " + k, x.ways(0, 1, 1, k), due[k]);
    }
    lead(x, 3, 0, 2, 2);
    check.due("ways from 0 to 1", x.ways(3, 0, 1, 1), 1);
    check.due("ways from 1 to 0", x.ways(3, 1, 0, 1), 0);
    check.due("ways of 11", x.ways(0, 1, 1, 11), -2);
    check.due("ways of -1", x.ways(0, 1, 1, -1), -2);
    check.due("ways i 2", x.ways(0, 2, 1, 1), -2);
    check.due("ways j 2", x.ways(0, 1, 2, 1), -2);
    check.due("ways j -1", x.ways(0, 1, -1, 1), -2);
    check.due("ways map 8", x.ways(8, 0, 0, 1), -2);
  }

  private void promise14Pieces() {
    SpanMaps x = with(0, 1, 2, 0);
    check.due("pieces of 0", x.pieces(0, 0), 2);
    check.due("pieces of 1", x.pieces(0, 1), 3);
    check.due("pieces of 10", x.pieces(0, 10), 233);
    check.due("pieces of a flat map", x.pieces(1, 3), 0);
    check.due("pieces of 11", x.pieces(0, 11), -2);
    check.due("pieces of -1", x.pieces(0, -1), -2);
    check.due("pieces map -1", x.pieces(-1, 1), -2);
  }

  private void promise15Part() {
    // Span 1 leads to 0 but 0 not to 1; spans 3 and 4 lead to each other.
    SpanMaps x = with(0, 1, 0, 2, 3, 5, 3);
    int[] due = {0, 1, 2, 3, 3};
    for (int i = 0; i < due.length; i++) {
      check.due("part " + i, x.part(0, i), due[i]);
    }
    lead(x, 1, 1, 2, 3, 4, 5, 0);
    for (int i = 0; i < 5; i++) {
      check.due("part of a long way " + i, x.part(1, i), 0);
    }
    lead(x, 3, 2, 1, 0);
    check.due("part of two that change places", x.part(3, 1), 0);
    lead(x, 2, 0, 0, 2);
    check.due("part where a way leads but one way", x.part(2, 1), 1);
    check.due("part of a flat span", x.part(2, 0), 0);
    check.due("part 2 of 2", x.part(2, 2), -2);
    check.due("part -1", x.part(2, -1), -2);
    check.due("part map 8", x.part(8, 0), -2);
  }

  private void promise16Mixes() {
    check.due("mixes at once", with(0, 0, 1).mixes(0), 1);
    check.due("mixes in 2", with(0, 1, 2, 0).mixes(0), 2);
    check.due("mixes in 4", with(0, 1, 3, 2, 0).mixes(0), 4);
    check.due("mixes never: flat", with(0, 0, 0).mixes(0), -1);
    check.due("mixes never: parts", with(0, 0, 1, 2).mixes(0), -1);
    check.due("mixes never: to and fro", with(0, 2, 1, 0).mixes(0), -1);
    check.due("mixes map 8", new SpanMaps().mixes(8), -2);
    check.due("mixes map -1", new SpanMaps().mixes(-1), -2);
  }

  private void promise17Rounds() {
    SpanMaps x = with(0, 0, 2, 0);
    int[] tent = {2, 4, 8, 16, 32, 64};
    for (int k = 1; k <= 6; k++) {
      check.due("rounds of the tent " + k, x.rounds(0, k), tent[k - 1]);
    }
    check.due("rounds of a flat map", x.rounds(1, 6), 1);
    check.due("rounds of all points", with(0, 0, 1).rounds(0, 1), -1);
    check.due("rounds of a span of them", with(0, 0, 1, 0).rounds(0, 1), -1);
    SpanMaps back = with(0, 1, 0);
    check.due("rounds turned about 1", back.rounds(0, 1), 1);
    check.due("rounds turned about 2", back.rounds(0, 2), -1);
    check.due("rounds turned about 3", back.rounds(0, 3), 1);
    check.due("rounds turned about 6", back.rounds(0, 6), -1);
    check.due("rounds on a falling corner", with(0, 2, 1, 0).rounds(0, 1), 1);
    // All six corners go round: 0, 3, 2, 4, 1, 5.
    int[] six = {1, 3, 1, 7, 1, 9};
    lead(x, 2, 3, 5, 4, 2, 1, 0);
    for (int k = 1; k <= 6; k++) {
      check.due("rounds of six corners " + k, x.rounds(2, k), six[k - 1]);
    }
    lead(x, 3, 4, 4, 4, 4, 5, 4);
    check.due("rounds of a high span turned about 1", x.rounds(3, 1), 1);
    check.due("rounds of a high span turned about 2", x.rounds(3, 2), -1);
    check.due("rounds of 0", x.rounds(0, 0), -2);
    check.due("rounds of 7", x.rounds(0, 7), -2);
    check.due("rounds map 8", x.rounds(8, 1), -2);
  }

  private void promise18Round() {
    SpanMaps x = with(0, 0, 2, 0);
    long[][] due = {{0, 1}, {4, 5}, {4, 3}, {8, 5}};
    for (int i = 0; i < due.length; i++) {
      check.due("round " + i + " a", x.round(0, 2, i, 0), due[i][0]);
      check.due("round " + i + " b", x.round(0, 2, i, 1), due[i][1]);
    }
    check.due("round not so many", x.round(0, 2, 4, 0), -1);
    check.due("round far too many", x.round(0, 2, HIGH, 0), -1);
    check.due("round i -1", x.round(0, 2, -1, 0), -2);
    check.due("round i far below 0", x.round(0, 2, LOW, 0), -2);
    check.due("round endless", with(0, 0, 1).round(0, 3, 0, 0), -1);
    check.due("round endless, wrong i ahead", with(0, 0, 1).round(0, 3, -1, 0), -2);
    check.due("round endless, wrong what ahead", with(0, 0, 1).round(0, 3, 0, 2), -2);
    check.due("round what -1", x.round(0, 2, 0, -1), -2);
    check.due("round of 0", x.round(0, 0, 0, 0), -2);
    check.due("round of 7", x.round(0, 7, 0, 0), -2);
    check.due("round map -1", x.round(-1, 2, 0, 0), -2);
    SpanMaps six = with(0, 3, 5, 4, 2, 1, 0);
    long[][] dueOfSix = {{0, 1}, {2, 3}, {1, 1}, {2, 1}, {8, 3}, {3, 1}, {4, 1}, {13, 3}, {5, 1}};
    for (int i = 0; i < dueOfSix.length; i++) {
      check.due("round of six corners " + i + " a", six.round(0, 6, i, 0), dueOfSix[i][0]);
      check.due("round of six corners " + i + " b", six.round(0, 6, i, 1), dueOfSix[i][1]);
    }
    check.due("round of six corners, not so many", six.round(0, 6, 9, 0), -1);
    SpanMaps last = with(0, 2, 0, 2);
    check.due("round at n", last.round(0, 1, 1, 0), 2);
    check.due("round at n, b", last.round(0, 1, 1, 1), 1);
    check.due("round ahead of n, a", last.round(0, 1, 0, 0), 2);
    check.due("round ahead of n, b", last.round(0, 1, 0, 1), 3);
  }

  private void promise19Period() {
    SpanMaps x = with(0, 0, 2, 0);
    int[] tent = {2, 2, 6, 12, 30, 54};
    for (int k = 1; k <= 6; k++) {
      check.due("period of the tent " + k, x.period(0, k), tent[k - 1]);
    }
    check.due("period 1 of a flat map", x.period(1, 1), 1);
    check.due("period 2 of a flat map", x.period(1, 2), 0);
    check.due("period endless by a divisor", with(0, 0, 1).period(0, 6), -1);
    check.due("period turned about 3", with(0, 1, 0).period(0, 3), 0);
    check.due("period turned about 4", with(0, 1, 0).period(0, 4), -1);
    check.due("period of six corners", with(0, 3, 5, 4, 2, 1, 0).period(0, 6), 6);
    check.due("period of six corners 4", with(0, 3, 5, 4, 2, 1, 0).period(0, 4), 4);
    check.due("period 0", x.period(0, 0), -2);
    check.due("period 7", x.period(0, 7), -2);
    check.due("period map 8", x.period(8, 1), -2);
  }

  private void promise20Has() {
    SpanMaps x = with(0, 1, 0);
    int[] turned = {1, 1, 0, 0, 0, 0};
    int[] still = {1, 0, 0, 0, 0, 0};
    int[] swapped = {1, 1, 0, 1, 0, 0};
    lead(x, 1, 0, 1, 2);
    // Two spans change places, and one of them is turned about on its way: back after 4 steps.
    lead(x, 2, 2, 3, 1, 0);
    for (int k = 1; k <= 6; k++) {
      check.due("has, turned about " + k, x.has(0, k), turned[k - 1]);
      check.due("has, all still " + k, x.has(1, k), still[k - 1]);
      check.due("has, changing places " + k, x.has(2, k), swapped[k - 1]);
    }
    // The first span is still, so all rounds are endless; the others make a tent.
    lead(x, 3, 0, 1, 3, 1);
    for (int k = 1; k <= 6; k++) {
      check.due("has beside a still span " + k, x.has(3, k), 1);
      check.due("rounds beside a still span " + k, x.rounds(3, k), -1);
    }
    int[] highTurned = {1, 1, 0, 0, 0, 0};
    lead(x, 4, 4, 4, 4, 4, 5, 4);
    for (int k = 1; k <= 6; k++) {
      check.due("has, a high span turned about " + k, x.has(4, k), highTurned[k - 1]);
    }
    check.due("has 0", x.has(0, 0), -2);
    check.due("has 7", x.has(0, 7), -2);
    check.due("has map 8", x.has(8, 1), -2);
  }

  private void promise21Forces() {
    SpanMaps x = new SpanMaps();
    int[] order = {3, 5, 7, 61, 63, 6, 10, 62, 12, 20, 60, 24, 40, 56, 48, 64, 32, 16, 8, 4, 2, 1};
    for (int p = 0; p < order.length; p++) {
      for (int q = 0; q < order.length; q++) {
        check.due("forces " + order[p] + " " + order[q], x.forces(order[p], order[q]), p <= q ? 1 : 0);
      }
    }
    for (int wrong : new int[] {0, 65, -3, LOW, HIGH}) {
      check.due("forces " + wrong + " 1", x.forces(wrong, 1), -2);
      check.due("forces 1 " + wrong, x.forces(1, wrong), -2);
      check.due("forces " + wrong + " itself", x.forces(wrong, wrong), -2);
    }
  }

  private void promise22Most() {
    check.due("most of a flat map", with(0, 0, 0).most(0), 1);
    check.due("most of a turned span", with(0, 1, 0).most(0), 2);
    check.due("most of the tent", with(0, 0, 2, 0).most(0), 3);
    check.due("most of five", with(0, 2, 4, 3, 1, 0).most(0), 5);
    check.due("most of four", with(0, 2, 3, 1, 0).most(0), 4);
    check.due("most of six", with(0, 3, 5, 4, 2, 1, 0).most(0), 6);
    check.due("most map 8", new SpanMaps().most(8), -2);
    check.due("most map -1", new SpanMaps().most(-1), -2);
  }

  private void promise23Top() {
    check.due("top", with(0, 0, 2, 0).top(0), 1);
    check.due("top late", with(0, 0, 1, 2, 4, 0).top(0), 3);
    check.due("top early", with(0, 0, 4, 3, 2, 1).top(0), 1);
    check.due("top of a rise", with(0, 0, 1, 2).top(0), -1);
    check.due("top of a rise by all pieces", with(0, 0, 1, 2, 3, 4, 5).top(0), -1);
    check.due("top of a fall by all pieces", with(0, 5, 4, 3, 2, 1, 0).top(0), -1);
    check.due("top of a fall", with(0, 2, 1, 0).top(0), -1);
    check.due("top of a dale", with(0, 2, 0, 2).top(0), -1);
    check.due("top of two tops", with(0, 0, 3, 1, 2, 0).top(0), -1);
    check.due("top with a flat piece behind", with(0, 0, 3, 3, 0).top(0), -1);
    check.due("top with a flat piece ahead", with(0, 0, 0, 3, 0).top(0), -1);
    check.due("top of one piece", with(0, 0, 1).top(0), -1);
    check.due("top map 8", new SpanMaps().top(8), -2);
    check.due("top map -1", new SpanMaps().top(-1), -2);
  }

  private void promise24TopWord() {
    SpanMaps x = with(0, 1, 3, 2, 0);
    int[] due = {2, 0, 1, 2, 0, 1};
    for (int i = 1; i <= due.length; i++) {
      check.due("topWord " + i, x.topWord(0, i), due[i - 1]);
    }
    check.due("topWord 1000", x.topWord(0, 1000), 2);
    check.due("topWord 1001", x.topWord(0, 1001), -2);
    check.due("topWord 0", x.topWord(0, 0), -2);
    check.due("topWord without a top", x.topWord(1, 1), -3);
    check.due("topWord BAD ahead of NO", x.topWord(1, 0), -2);
    check.due("topWord map 8", x.topWord(8, 1), -2);
  }

  private void promise25TopRound() {
    SpanMaps x = with(0, 0, 2, 0);
    check.due("topRound ahead", x.topRound(0, 0), 2);
    check.due("topRound of one", x.topRound(0, 1), 1);
    lead(x, 1, 1, 3, 2, 0);
    check.due("topRound at once", x.topRound(1, 0), 0);
    check.due("topRound of three", x.topRound(1, 1), 3);
    // 1, 5, 0, 3, 2, 3: the top is not on the round of 2 that it comes to.
    lead(x, 2, 3, 5, 3, 2, 1, 0);
    check.due("topRound of two, ahead", x.topRound(2, 0), 3);
    check.due("topRound of two", x.topRound(2, 1), 2);
    lead(x, 3, 2, 4, 3, 1, 0);
    check.due("topRound of all corners, ahead", x.topRound(3, 0), 0);
    check.due("topRound of all corners", x.topRound(3, 1), 5);
    check.due("topRound what 2", x.topRound(0, 2), -2);
    check.due("topRound what -1", x.topRound(0, -1), -2);
    check.due("topRound without a top", x.topRound(7, 0), -3);
    check.due("topRound BAD ahead of NO", x.topRound(7, 2), -2);
    check.due("topRound map 8", x.topRound(8, 0), -2);
  }

  private void promise26Digest() {
    SpanMaps x = new SpanMaps();
    check.due("digest of a new object", x.digest(), digestOf(new int[8][2]));
    int[][] led = new int[8][2];
    led[0] = new int[] {2, 0, 1};
    led[7] = new int[] {5, 4, 3, 2, 1, 0};
    lead(x, 0, led[0]);
    lead(x, 7, led[7]);
    check.due("digest", x.digest(), digestOf(led));
    check.due("digest changes nothing", x.digest(), digestOf(led));
    x.map(7, 1);
    x.corner(7, 1, 1);
    led[7] = new int[] {0, 1};
    check.due("digest of corners that are there", x.digest(), digestOf(led));
  }

  private static long digestOf(int[][] led) {
    long h = 167;
    for (int[] corners : led) {
      h = 31 * h + corners.length - 1;
      for (int v : corners) {
        h = 31 * h + v;
      }
    }
    return h;
  }
}
