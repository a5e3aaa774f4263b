import java.math.BigInteger;

/** Promises 23 to 26: tops and their words, and the digest of all maps. */
final class TopsCases extends Cases {
  private static final int[] HILL = {1, 3, 2, 0};

  // ---- promise 23: top

  @Promise(n = 23, says = {"The TOP", "A MAP has a TOP c (0 < c < n)"})
  void promise23_theFirstCornerThatCanBeIt() {
    lead(0, TENT);
    lead(1, HILL);
    lead(2, 0, 4, 3, 2, 1);
    lead(3, 0, 5, 4, 3, 2, 1);
    rows("top", m -> x.top(m), 0, 1, 1, 1, 1);
  }

  @Promise(n = 23, says = {"The TOP", "A MAP has a TOP c (0 < c < n)"})
  void promise23_theLastCornerThatCanBeIt() {
    lead(0, 0, 1, 0);
    lead(1, 0, 1, 2, 0);
    lead(2, 0, 1, 2, 4, 0);
    lead(3, 0, 1, 2, 3, 4, 3);
    rows("top", m -> x.top(m), 0, 1, 2, 3, 4);
  }

  @Promise(n = 23, says = {"NONE.", "(0 < c < n)"})
  void promise23_noTopWhereAllFalls() {
    lead(0, 1, 0);
    lead(1, 2, 1, 0);
    lead(2, 5, 4, 3, 2, 1, 0);
    rows("top", m -> x.top(m), 0, -1, -1, -1);
  }

  @Promise(n = 23, says = {"NONE.", "(0 < c < n)"})
  void promise23_noTopWhereAllRises() {
    lead(0, 0, 1);
    lead(1, 0, 1, 2);
    lead(2, 0, 1, 2, 3, 4, 5);
    rows("top", m -> x.top(m), 0, -1, -1, -1);
  }

  @Promise(n = 23, says = {"NONE.", "all SLOPES of PIECES below c are above 0, and all others below 0."})
  void promise23_noTopWithASlope0() {
    lead(0, 0, 0, 3, 0);
    lead(1, 0, 3, 3, 0);
    lead(2, 0, 3, 0, 0);
    lead(3, 0, 0, 0);
    lead(4, 0, 2, 2);
    lead(5, 2, 2, 0);
    rows("top", m -> x.top(m), 0, -1, -1, -1, -1, -1, -1, -1);
  }

  @Promise(n = 23, says = {"NONE.", "all SLOPES of PIECES below c are above 0, and all others below 0."})
  void promise23_noTopInADaleOrWithTwo() {
    lead(0, 2, 0, 2);
    lead(1, 0, 3, 1, 2, 0);
    lead(2, 0, 3, 1, 2);
    lead(3, 3, 1, 2, 0);
    rows("top", m -> x.top(m), 0, -1, -1, -1, -1);
  }

  @Promise(n = 23, says = {"MAPS 0 ..", "BAD."})
  void promise23_onlyMaps0To7() {
    onlyMaps0To7(m -> x.top(m));
  }

  // ---- promise 24: topWord

  @Promise(n = 24, says = {"Letter i (1 .. 1000) of THE TOP's WORD.", "0 left of the TOP, 1 on it, 2 right of it."})
  void promise24_leftOnAndRightOfTheTop() {
    lead(0, HILL);
    // 1, 3, 0, 1, 3, 0, 1
    rows("letter", i -> x.topWord(0, i), 1, 2, 0, 1, 2, 0, 1);
  }

  @Promise(n = 24, says = {"Letter i (1 .. 1000) of THE TOP's WORD.", "0 left of the TOP, 1 on it, 2 right of it."})
  void promise24_oneLeftAndOneRightOfTheTop() {
    lead(0, 1, 2, 4, 5, 4, 0);
    // 3, 5, 0, 1, 2, 4, 4
    rows("letter", i -> x.topWord(0, i), 1, 2, 0, 0, 0, 2, 2);
    lead(1, 0, 1, 0);
    rows("letter of a top that stays", i -> x.topWord(1, i), 1, 1, 1, 1);
  }

  @Promise(n = 24, says = {"Letter i (1 .. 1000)", "letter i (from 1 on)"})
  void promise24_letter1000IsTheLast() {
    lead(0, HILL);
    rows("letter", i -> x.topWord(0, i), 998, 0, 1, 2);
  }

  @Promise(n = 24, says = {"Letter i (1 .. 1000)", "BAD"})
  void promise24_letter0AndBelow() {
    lead(0, HILL);
    bad(() -> x.topWord(0, 0));
    bad(() -> x.topWord(0, -1));
    bad(() -> x.topWord(0, LEAST));
  }

  @Promise(n = 24, says = {"Letter i (1 .. 1000)", "BAD"})
  void promise24_lettersBeyond1000() {
    lead(0, HILL);
    bad(() -> x.topWord(0, 1001));
    bad(() -> x.topWord(0, GREATEST));
  }

  @Promise(n = 24, says = "NO: there is no TOP.")
  void promise24_noTop() {
    lead(1, 0, 1, 2);
    lead(2, 2, 1, 0);
    lead(3, 2, 0, 2);
    for (int m = 0; m < 4; m++) {
      int of = m;
      refused(() -> x.topWord(of, 1), SpanMaps.NO);
      refused(() -> x.topWord(of, 1000), SpanMaps.NO);
    }
  }

  @Promise(n = 24, says = {"Refused, changing nothing, the first of: BAD -2", "NO: there is no TOP."})
  void promise24_badComesAheadOfNo() {
    bad(() -> x.topWord(0, 0));
    bad(() -> x.topWord(0, 1001));
  }

  @Promise(n = 24, says = {"MAPS 0 ..", "BAD"})
  void promise24_onlyMaps0To7() {
    onlyMaps0To7(m -> x.topWord(m, 1));
  }

  // ---- promise 25: topRound

  private void topRoundIs(int m, int ahead, int round) {
    due("steps ahead, map " + m, x.topRound(m, 0), ahead);
    due("steps of the round, map " + m, x.topRound(m, 1), round);
  }

  @Promise(n = 25, says = "How many steps till the TOP comes to where it was")
  void promise25_theTopItselfComesBack() {
    lead(0, 0, 1, 0);
    topRoundIs(0, 0, 1);
    lead(1, 0, 1, 3, 2, 1, 0);
    topRoundIs(1, 0, 2);
    lead(2, HILL);
    topRoundIs(2, 0, 3);
    lead(3, 2, 4, 3, 1, 0);
    topRoundIs(3, 0, 5);
  }

  @Promise(n = 25, says = "How many steps till the TOP comes to where it was")
  void promise25_theLongestRoundIsOfAllSixCorners() {
    lead(0, 3, 5, 4, 2, 1, 0);
    topRoundIs(0, 0, 6);
  }

  @Promise(n = 25, says = {"or to a CORNER where it was already on its way",
      "a (what = 0) steps ahead of that round, b (1) steps of it."})
  void promise25_theTopComesToACornerOnItsWay() {
    lead(0, TENT);
    topRoundIs(0, 2, 1);
    // 1, 5, 0, 3, 2, 3
    lead(1, 3, 5, 3, 2, 1, 0);
    topRoundIs(1, 3, 2);
    // 2, 5, 0, 1, 3, 4, 1
    lead(2, 1, 3, 5, 4, 1, 0);
    topRoundIs(2, 3, 3);
    // 2, 5, 0, 3, 4, 1, 4
    lead(3, 3, 4, 5, 4, 1, 0);
    topRoundIs(3, 4, 2);
  }

  @Promise(n = 25, says = "steps ahead of that round")
  void promise25_theMostStepsAheadOfARound() {
    // 3, 5, 0, 1, 2, 4, 4
    lead(0, 1, 2, 4, 5, 4, 0);
    topRoundIs(0, 5, 1);
  }

  @Promise(n = 25, says = {"a (what = 0) steps ahead of that round, b (1) steps of it.", "BAD"})
  void promise25_whatIs0Or1Alone() {
    lead(0, TENT);
    for (int what : new int[] {-1, 2, LEAST, GREATEST}) {
      bad(() -> x.topRound(0, what));
    }
  }

  @Promise(n = 25, says = "NO: there is no TOP.")
  void promise25_noTop() {
    lead(1, 0, 1, 2);
    lead(2, 2, 1, 0);
    lead(3, 2, 0, 2);
    for (int m = 0; m < 4; m++) {
      int of = m;
      refused(() -> x.topRound(of, 0), SpanMaps.NO);
      refused(() -> x.topRound(of, 1), SpanMaps.NO);
    }
  }

  @Promise(n = 25, says = {"Refused, changing nothing, the first of: BAD -2", "NO: there is no TOP."})
  void promise25_badComesAheadOfNo() {
    bad(() -> x.topRound(0, 2));
    bad(() -> x.topRound(0, -1));
  }

  @Promise(n = 25, says = {"MAPS 0 ..", "BAD"})
  void promise25_onlyMaps0To7() {
    onlyMaps0To7(m -> x.topRound(m, 0));
  }

  // ---- promise 26: digest

  /** The digest without bounds, cut to the 64 bits of a long at the end. */
  private static long digestOf(int[][] led) {
    BigInteger h = BigInteger.valueOf(167);
    BigInteger by = BigInteger.valueOf(31);
    for (int[] corners : led) {
      h = h.multiply(by).add(BigInteger.valueOf(corners.length - 1));
      for (int v : corners) {
        h = h.multiply(by).add(BigInteger.valueOf(v));
      }
    }
    return h.longValue();
  }

  @Promise(n = 26, says = "h = 167; then h = 31 h + v for each v")
  void promise26_ofANewObject() {
    due(x.digest(), digestOf(new int[MAPS][2]));
  }

  @Promise(n = 26, says = {"then h = 31 h + v for each v", "of MAPS PIECES, where CORNERS are led."})
  void promise26_wrapsAroundWithAllMapsFull() {
    int[][] led = new int[MAPS][];
    for (int m = 0; m < MAPS; m++) {
      led[m] = new int[] {5, m % 6, 5 - m % 6, m % 2, m % 3, 5};
      lead(m, led[m]);
    }
    due(x.digest(), digestOf(led));
  }

  @Promise(n = 26, says = "of MAPS PIECES, where CORNERS are led.")
  void promise26_theFirstAndTheLastMapCountEach() {
    int[][] led = new int[MAPS][2];
    led[0] = new int[] {2, 0, 1};
    lead(0, led[0]);
    due(x.digest(), digestOf(led));
    led[7] = new int[] {5, 4, 3, 2, 1, 0};
    lead(7, led[7]);
    due(x.digest(), digestOf(led));
  }

  @Promise(n = 26, says = "where CORNERS are led.")
  void promise26_cornersThatWereCutOffDoNotCount() {
    int[][] led = new int[MAPS][2];
    lead(7, 5, 4, 3, 2, 1, 5);
    led[7] = new int[] {0, 1};
    lead(7, led[7]);
    due(x.digest(), digestOf(led));
    lead(6, 5, 4, 3, 2, 1, 5);
    due(x.copy(7, 6), 1);
    led[6] = led[7];
    due(x.digest(), digestOf(led));
    lead(5, 5, 4, 3, 2, 1, 5);
    due(x.turn(0, 5), 1);
    led[5] = new int[] {1, 1};
    due(x.digest(), digestOf(led));
  }

  @Promise(n = 26, says = "of MAPS PIECES, where CORNERS are led.")
  void promise26_onlyMapCornerCopyAndTurnChangeIt() {
    lead(0, TENT);
    lead(1, 0, 2, 1);
    long before = x.digest();
    due("digest twice", x.digest(), before);
    x.cornerAt(0, 1);
    x.slope(0, 1);
    x.far(0, 1, 3, 1000, 0);
    x.word(0, 1, 3, 1000);
    x.order(0, 1, 3, 2, 3, 9);
    x.join(0, 1, 1, 3, 1);
    x.table(0, 1, 1);
    x.ways(0, 1, 1, 10);
    x.pieces(0, 10);
    x.part(0, 1);
    x.mixes(0);
    x.rounds(0, 6);
    x.round(0, 6, 63, 1);
    x.period(0, 6);
    x.has(0, 6);
    x.forces(12, 40);
    x.most(0);
    x.top(0);
    x.topWord(0, 1000);
    x.topRound(0, 1);
    due("digest behind all calls that only tell", x.digest(), before);
    ledTo(0, TENT);
    ledTo(1, 0, 2, 1);
  }
}
