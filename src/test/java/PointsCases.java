import java.math.BigInteger;

/** Promises 8 to 11: where points go, which words they write, and in which order words stand. */
final class PointsCases extends Cases {
  private static final int[] HILL = {1, 3, 2, 0};
  private static final int[] DALE = {2, 0, 2};

  /** A call of a map of two pieces that is asked about one point. */
  private interface OfPoint {
    long answer(long a, long b);
  }

  private void noBelowUnder1(OfPoint call) {
    for (long b : new long[] {0, -1, -100000, Long.MIN_VALUE}) {
      bad(() -> call.answer(0, b));
    }
  }

  private void noBelowOver100000(OfPoint call) {
    for (long b : new long[] {100001, (1L << 32) + 1, 1L << 62, Long.MAX_VALUE}) {
      bad(() -> call.answer(0, b));
      bad(() -> call.answer(1, b));
    }
    bad(() -> call.answer(Long.MAX_VALUE, Long.MAX_VALUE));
  }

  private void noAboveUnder0(OfPoint call) {
    for (long a : new long[] {-1, -100000, -(1L << 32), Long.MIN_VALUE}) {
      bad(() -> call.answer(a, 1));
      bad(() -> call.answer(a, 100000));
    }
  }

  private void noAboveOverTwoB(OfPoint call) {
    bad(() -> call.answer(3, 1));
    bad(() -> call.answer(15, 7));
    bad(() -> call.answer(200001, 100000));
    for (long a : new long[] {1L << 32, (1L << 32) + 1, Long.MAX_VALUE}) {
      bad(() -> call.answer(a, 1));
      bad(() -> call.answer(a, 100000));
    }
  }

  private void farIs(long a, long b, int k, long dueA, long dueB) {
    String call = a + "/" + b + " in " + k;
    due(call + " steps: a", x.far(0, a, b, k, 0), dueA);
    due(call + " steps: b", x.far(0, a, b, k, 1), dueB);
  }

  private void joinIs(int m, int other, long a, long b, long dueA, long dueB) {
    String call = a + "/" + b + " by " + m + ", " + other;
    due(call + ": a", x.join(m, other, a, b, 0), dueA);
    due(call + ": b", x.join(m, other, a, b, 1), dueB);
  }

  private void orderIs(long a, long b, long c, long d, int k, int want) {
    String call = a + "/" + b + " and " + c + "/" + d + " by " + k;
    due(call, x.order(0, a, b, c, d, k), want);
    due(call + " the other way", x.order(0, c, d, a, b, k), -want);
  }

  // ---- promise 8: far

  @Promise(n = 8, says = "Where a POINT is in k steps (0 .. 1000)")
  void promise8_in0StepsItIsWhereItIs() {
    lead(0, TENT);
    farIs(5, 3, 0, 5, 3);
    farIs(2, 1, 0, 2, 1);
    farIs(0, 1, 0, 0, 1);
  }

  @Promise(n = 8, says = "Where a POINT is in k steps (0 .. 1000)")
  void promise8_1000StepsAreTheMost() {
    lead(0, TENT);
    farIs(2, 7, 1, 4, 7);
    farIs(2, 7, 999, 12, 7);
    farIs(2, 7, 1000, 4, 7);
  }

  @Promise(n = 8, says = {"Where a POINT is in k steps (0 .. 1000)", "followed exactly in fractions"})
  void promise8_1000StepsAreExact() {
    lead(0, TENT);
    // In k steps the tent leads x to how far 2^k x is from the next multiple of 4.
    BigInteger fourB = BigInteger.valueOf(4 * 99999L);
    long rest = BigInteger.TWO.modPow(BigInteger.valueOf(1000), fourB).longValueExact();
    long a = Math.min(rest, 4 * 99999L - rest);
    long common = BigInteger.valueOf(a).gcd(BigInteger.valueOf(99999)).longValueExact();
    farIs(1, 99999, 1000, a / common, 99999 / common);
  }

  @Promise(n = 8, says = {"k steps (0 .. 1000)", "BAD: -2."})
  void promise8_stepsBelow0() {
    lead(0, TENT);
    bad(() -> x.far(0, 1, 1, -1, 0));
    bad(() -> x.far(0, 1, 1, LEAST, 1));
  }

  @Promise(n = 8, says = {"k steps (0 .. 1000)", "BAD: -2."})
  void promise8_stepsBeyond1000() {
    lead(0, TENT);
    bad(() -> x.far(0, 1, 1, 1001, 0));
    bad(() -> x.far(0, 1, 1, GREATEST, 1));
  }

  @Promise(n = 8, says = {"a (what = 0), b (1)", "BAD: -2."})
  void promise8_whatIs0Or1Alone() {
    lead(0, TENT);
    farIs(2, 7, 3, 12, 7);
    bad(() -> x.far(0, 2, 7, 3, -1));
    bad(() -> x.far(0, 2, 7, 3, 2));
    bad(() -> x.far(0, 2, 7, 3, LEAST));
    bad(() -> x.far(0, 2, 7, 3, GREATEST));
  }

  @Promise(n = 8, says = {"(b 1 .. 100000", "BAD: -2."})
  void promise8_bBelow1() {
    lead(0, TENT);
    noBelowUnder1((a, b) -> x.far(0, a, b, 1, 0));
  }

  @Promise(n = 8, says = {"(b 1 .. 100000", "BAD: -2."})
  void promise8_bBeyond100000() {
    lead(0, TENT);
    noBelowOver100000((a, b) -> x.far(0, a, b, 1, 0));
  }

  @Promise(n = 8, says = "(b 1 .. 100000, a 0 .. n b)")
  void promise8_bOf1AndOf100000() {
    lead(0, TENT);
    farIs(1, 1, 1, 2, 1);
    farIs(1, 100000, 0, 1, 100000);
    farIs(99999, 100000, 1, 99999, 50000);
    farIs(100001, 100000, 1, 99999, 50000);
    farIs(199999, 100000, 1, 1, 50000);
  }

  @Promise(n = 8, says = {"a 0 .. n b)", "BAD: -2."})
  void promise8_aBelow0() {
    lead(0, TENT);
    noAboveUnder0((a, b) -> x.far(0, a, b, 1, 0));
  }

  @Promise(n = 8, says = {"a 0 .. n b)", "BAD: -2."})
  void promise8_aBeyondNTimesB() {
    lead(0, TENT);
    noAboveOverTwoB((a, b) -> x.far(0, a, b, 1, 0));
  }

  @Promise(n = 8, says = "a 0 .. n b)")
  void promise8_aOfNTimesBForEachNumberOfPieces() {
    for (int n = 1; n <= 5; n++) {
      long full = n * 100000L;
      x.map(0, n);
      x.corner(0, n, n);
      farIs(full, 100000, 1, n, 1);
      farIs(n, 1, 1000, n, 1);
      farIs(0, 100000, 1, 0, 1);
      bad(() -> x.far(0, full + 1, 100000, 1, 0));
    }
  }

  @Promise(n = 8, says = "tell themselves in lowest terms")
  void promise8_lowestTermsEvenIn0Steps() {
    lead(0, TENT);
    farIs(6, 4, 0, 3, 2);
    farIs(50000, 100000, 0, 1, 2);
    farIs(7, 7, 0, 1, 1);
    farIs(1, 8, 2, 1, 2);
    farIs(1, 4, 3, 2, 1);
  }

  @Promise(n = 8, says = "(a of 0: b is 1)")
  void promise8_aOf0TellsBOf1() {
    lead(0, TENT);
    farIs(0, 77, 0, 0, 1);
    farIs(0, 100000, 1000, 0, 1);
    farIs(1, 4, 4, 0, 1);
    farIs(14, 7, 1, 0, 1);
  }

  @Promise(n = 8, says = "between two CORNERS the MAP is straight.")
  void promise8_straightBetweenCornersAndExactOnThem() {
    lead(0, HILL);
    farIs(1, 4, 1, 3, 2);
    farIs(3, 2, 1, 5, 2);
    farIs(5, 2, 1, 1, 1);
    farIs(7, 3, 1, 4, 3);
    rows("corner", i -> x.far(0, i, 1, 1, 0), 0, 1, 3, 2, 0);
  }

  @Promise(n = 8, says = "between two CORNERS the MAP is straight.")
  void promise8_aFlatPieceLeadsAllToOnePoint() {
    lead(0, 2, 1, 1);
    farIs(1, 1, 1, 1, 1);
    farIs(4, 3, 1, 1, 1);
    farIs(2, 1, 1, 1, 1);
    farIs(1, 3, 1, 5, 3);
  }

  @Promise(n = 8, says = {"Where a POINT is in k steps", "a 0 .. n b)"})
  void promise8_thePointIsOneOfTheMapThatIsMeant() {
    lead(7, HILL);
    due(x.far(7, 5, 2, 1, 0), 1);
    due(x.far(7, 3, 1, 0, 0), 3);
    due(x.far(0, 1, 1, 1, 0), 0);
    bad(() -> x.far(0, 5, 2, 1, 0));
  }

  @Promise(n = 8, says = {"MAPS 0 ..", "BAD: -2."})
  void promise8_onlyMaps0To7() {
    onlyMaps0To7(m -> x.far(m, 0, 1, 1, 0));
  }

  // ---- promise 9: word

  @Promise(n = 9, says = {"Letter i (0 .. 1000) of a POINT's WORD.", "Its WORD: letter 0 is THE SPAN of x"})
  void promise9_letter0IsItsOwnSpanAndLetter1ThatOfTheNext() {
    lead(0, HILL);
    // 1/4, 3/2, 5/2, 1, 3, 0, 1
    rows("letter", i -> x.word(0, 1, 4, i), 0, 0, 1, 2, 1, 2, 0, 1);
  }

  @Promise(n = 9, says = "Letter i (0 .. 1000) of a POINT's WORD.")
  void promise9_letter1000IsTheLast() {
    lead(0, HILL);
    rows("letter", i -> x.word(0, 1, 4, i), 998, 0, 1, 2);
  }

  @Promise(n = 9, says = {"Letter i (0 .. 1000)", "BAD."})
  void promise9_lettersBelow0() {
    bad(() -> x.word(0, 0, 1, -1));
    bad(() -> x.word(0, 0, 1, LEAST));
  }

  @Promise(n = 9, says = {"Letter i (0 .. 1000)", "BAD."})
  void promise9_lettersBeyond1000() {
    bad(() -> x.word(0, 0, 1, 1001));
    bad(() -> x.word(0, 0, 1, GREATEST));
  }

  @Promise(n = 9, says = "THE SPAN of a POINT x: i for i <= x < i + 1")
  void promise9_aWholeNumberIsOfTheSpanThatBeginsThere() {
    x.map(0, 5);
    for (int i = 0; i < 5; i++) {
      due(x.word(0, i, 1, 0), i);
      due(x.word(0, 3L * i, 3, 0), i);
    }
  }

  @Promise(n = 9, says = "THE SPAN of a POINT x: i for i <= x < i + 1")
  void promise9_justBelowAndJustAboveAWholeNumber() {
    x.map(0, 5);
    for (int i = 1; i < 5; i++) {
      due(x.word(0, i * 100000L - 1, 100000, 0), i - 1);
      due(x.word(0, i * 100000L + 1, 100000, 0), i);
    }
    due(x.word(0, 499999, 100000, 0), 4);
  }

  @Promise(n = 9, says = "n - 1 for n.")
  void promise9_thePointNIsOfTheLastSpan() {
    for (int n = 1; n <= 5; n++) {
      x.map(0, n);
      due(x.word(0, n, 1, 0), n - 1);
      due(x.word(0, n * 100000L, 100000, 0), n - 1);
    }
  }

  @Promise(n = 9, says = {"n - 1 for n.", "letter 1 that of the POINT to which x is led, and so on."})
  void promise9_aPointThatIsLedToN() {
    lead(0, HILL);
    due(x.word(0, 1, 1, 1), 2);
    due(x.word(0, 1, 1, 2), 0);
  }

  @Promise(n = 9, says = {"(b 1 .. 100000", "BAD."})
  void promise9_bBelow1() {
    lead(0, TENT);
    noBelowUnder1((a, b) -> x.word(0, a, b, 0));
  }

  @Promise(n = 9, says = {"(b 1 .. 100000", "BAD."})
  void promise9_bBeyond100000() {
    lead(0, TENT);
    noBelowOver100000((a, b) -> x.word(0, a, b, 0));
  }

  @Promise(n = 9, says = {"a 0 .. n b)", "BAD."})
  void promise9_aBelow0() {
    lead(0, TENT);
    noAboveUnder0((a, b) -> x.word(0, a, b, 0));
  }

  @Promise(n = 9, says = {"a 0 .. n b)", "BAD."})
  void promise9_aBeyondNTimesB() {
    lead(0, TENT);
    noAboveOverTwoB((a, b) -> x.word(0, a, b, 0));
  }

  @Promise(n = 9, says = {"of a POINT's WORD.", "a 0 .. n b)"})
  void promise9_thePointIsOneOfTheMapThatIsMeant() {
    lead(7, HILL);
    rows("letter", i -> x.word(7, 3, 2, i), 0, 1, 2, 1, 2);
    due(x.word(7, 3, 1, 0), 2);
    due(x.word(0, 1, 1, 0), 0);
    bad(() -> x.word(0, 3, 2, 0));
  }

  @Promise(n = 9, says = {"MAPS 0 ..", "BAD."})
  void promise9_onlyMaps0To7() {
    onlyMaps0To7(m -> x.word(m, 0, 1, 0));
  }

  // ---- promise 10: order

  @Promise(n = 10, says = {"-1 the first is ahead, 1 the second, 0 neither.", "the lesser is ahead"})
  void promise10_theLesserLetter0IsAhead() {
    lead(0, TENT);
    orderIs(1, 3, 5, 3, 1, -1);
    orderIs(0, 1, 2, 1, 1, -1);
    orderIs(99999, 100000, 1, 1, 1, -1);
  }

  @Promise(n = 10, says = "TWISTED ORDER by k letters (0 .. 1000)")
  void promise10_by0LettersNeitherIsAhead() {
    lead(0, TENT);
    orderIs(1, 3, 5, 3, 0, 0);
  }

  @Promise(n = 10, says = "TWISTED ORDER by k letters (0 .. 1000)")
  void promise10_1000LettersAreTheMost() {
    lead(0, TENT);
    orderIs(1, 3, 5, 3, 1000, -1);
    orderIs(1, 100000, 1, 65536, 1000, -1);
    orderIs(4, 3, 4, 3, 1000, 0);
  }

  @Promise(n = 10, says = {"k letters (0 .. 1000)", "BAD: -2."})
  void promise10_lettersBelow0() {
    lead(0, TENT);
    bad(() -> x.order(0, 1, 3, 5, 3, -1));
    bad(() -> x.order(0, 1, 3, 5, 3, LEAST));
  }

  @Promise(n = 10, says = {"k letters (0 .. 1000)", "BAD: -2."})
  void promise10_lettersBeyond1000() {
    lead(0, TENT);
    bad(() -> x.order(0, 1, 3, 5, 3, 1001));
    bad(() -> x.order(0, 1, 3, 5, 3, GREATEST));
  }

  @Promise(n = 10, says = "at the first letter that differs (from 0 on, of k)")
  void promise10_theLastOfKLettersCountsAndTheNextDoesNot() {
    lead(0, TENT);
    // 1/65536 is at 1 in 16 steps, so that letter 16 is the first that differs.
    orderIs(1, 100000, 1, 65536, 16, 0);
    orderIs(1, 100000, 1, 65536, 17, -1);
  }

  @Promise(n = 10, says = {"an odd number of letters ahead of it",
      "the PIECES of which have a SLOPE below 0, the greater is ahead."})
  void promise10_behindOneFallingPieceTheGreaterIsAhead() {
    lead(0, TENT);
    // 6/5, 8/5 and 9/5, 2/5
    orderIs(6, 5, 9, 5, 2, -1);
    orderIs(6, 5, 9, 5, 1, 0);
  }

  @Promise(n = 10, says = {"an odd number of letters ahead of it",
      "the PIECES of which have a SLOPE below 0, the greater is ahead."})
  void promise10_behindThreeFallingPiecesTheGreaterIsAhead() {
    lead(0, TENT);
    // 13/10, 7/5, 6/5, 8/5 and 7/5, 6/5, 8/5, 4/5
    orderIs(13, 10, 7, 5, 4, -1);
    orderIs(13, 10, 7, 5, 3, 0);
  }

  @Promise(n = 10, says = {"the lesser is ahead", "an odd number of letters ahead of it"})
  void promise10_behindTwoFallingPiecesTheLesserIsAhead() {
    lead(0, TENT);
    // 11/10, 9/5, 2/5 and 13/10, 7/5, 6/5
    orderIs(11, 10, 13, 10, 3, -1);
    orderIs(11, 10, 13, 10, 2, 0);
  }

  @Promise(n = 10, says = {"the lesser is ahead", "an odd number of letters ahead of it"})
  void promise10_risingPiecesAheadOfItDoNotCount() {
    lead(0, TENT);
    // 1/3, 2/3, 4/3 and 2/3, 4/3
    orderIs(1, 3, 2, 3, 2, -1);
    // 2/5, 4/5, 8/5, 4/5 and 3/5, 6/5
    orderIs(2, 5, 3, 5, 9, -1);
    // 11/20, 11/10, 9/5, 2/5 and 13/20, 13/10, 7/5, 6/5
    orderIs(11, 20, 13, 20, 4, -1);
  }

  @Promise(n = 10, says = "the PIECES of which have a SLOPE below 0, the greater is ahead.")
  void promise10_aSlopeOfMinus1CountsAndOneOf1DoesNot() {
    lead(0, 2, 1, 3, 0);
    // 1/4, 7/4, 5/2 and 3/4, 5/4, 3/2
    orderIs(1, 4, 3, 4, 3, -1);
    lead(0, 1, 3, 1, 0);
    // 1/4, 3/2 and 3/4, 5/2
    orderIs(1, 4, 3, 4, 2, -1);
    lead(0, 1, 2, 0);
    // 1/4, 5/4, 3/2 and 3/4, 7/4, 1/2
    orderIs(1, 4, 3, 4, 3, -1);
    lead(0, 1, 2, 0, 3);
    // 1/4, 5/4, 3/2 and 3/4, 7/4, 1/2
    orderIs(1, 4, 3, 4, 3, -1);
  }

  @Promise(n = 10, says = "an odd number of letters ahead of it")
  void promise10_theLetterThatDiffersIsNotAheadOfItself() {
    lead(0, DALE);
    // Span 0 falls, but it is the letter that differs.
    orderIs(1, 2, 3, 2, 1, -1);
    orderIs(1, 2, 3, 2, 1000, -1);
  }

  @Promise(n = 10, says = "With a SLOPE 0 ahead of it, or none that differs, neither is.")
  void promise10_behindASlope0NeitherIsAhead() {
    lead(0, 0, 0, 2, 1);
    orderIs(1, 3, 2, 3, 1000, 0);
    lead(0, 2, 2, 0);
    orderIs(0, 1, 1, 2, 1000, 0);
  }

  @Promise(n = 10, says = "With a SLOPE 0 ahead of it")
  void promise10_aSlope0OnTheLetterThatDiffersIsNotAheadOfIt() {
    lead(0, 0, 0, 2, 1);
    orderIs(1, 3, 4, 3, 9, -1);
    lead(0, 2, 1, 1);
    orderIs(1, 3, 4, 3, 9, -1);
    // 1/5, 9/5 and 1, 1 stand in spans of SLOPE -1 and 0.
    orderIs(1, 5, 1, 1, 1, -1);
  }

  @Promise(n = 10, says = "or none that differs, neither is.")
  void promise10_onePointToldInTwoWays() {
    lead(0, TENT);
    orderIs(2, 6, 1, 3, 1000, 0);
    orderIs(0, 5, 0, 100000, 1000, 0);
    orderIs(2, 1, 200000, 100000, 1000, 0);
  }

  @Promise(n = 10, says = "or none that differs, neither is.")
  void promise10_twoPointsOfOneWord() {
    lead(0, 1, 0);
    orderIs(1, 3, 1, 4, 1000, 0);
    orderIs(0, 1, 1, 1, 1000, 0);
  }

  @Promise(n = 10, says = {"(b 1 .. 100000", "BAD: -2."})
  void promise10_bOfEitherPointBelow1() {
    lead(0, TENT);
    noBelowUnder1((a, b) -> x.order(0, a, b, 1, 3, 1));
    noBelowUnder1((c, d) -> x.order(0, 1, 3, c, d, 1));
  }

  @Promise(n = 10, says = {"(b 1 .. 100000", "BAD: -2."})
  void promise10_bOfEitherPointBeyond100000() {
    lead(0, TENT);
    noBelowOver100000((a, b) -> x.order(0, a, b, 1, 3, 1));
    noBelowOver100000((c, d) -> x.order(0, 1, 3, c, d, 1));
  }

  @Promise(n = 10, says = {"a 0 .. n b)", "BAD: -2."})
  void promise10_aOfEitherPointBelow0() {
    lead(0, TENT);
    noAboveUnder0((a, b) -> x.order(0, a, b, 1, 3, 1));
    noAboveUnder0((c, d) -> x.order(0, 1, 3, c, d, 1));
  }

  @Promise(n = 10, says = {"a 0 .. n b)", "BAD: -2."})
  void promise10_aOfEitherPointBeyondNTimesB() {
    lead(0, TENT);
    noAboveOverTwoB((a, b) -> x.order(0, a, b, 1, 3, 1));
    noAboveOverTwoB((c, d) -> x.order(0, 1, 3, c, d, 1));
  }

  @Promise(n = 10, says = {"of the WORDS of POINTS a by b, c by d", "BAD: -2."})
  void promise10_aWrongPointIsBadEvenBy0Letters() {
    lead(0, TENT);
    bad(() -> x.order(0, 7, 3, 1, 3, 0));
    bad(() -> x.order(0, 1, 3, 7, 3, 0));
  }

  @Promise(n = 10, says = {"of the WORDS of POINTS a by b, c by d", "a 0 .. n b)"})
  void promise10_thePointsAreThoseOfTheMapThatIsMeant() {
    lead(7, HILL);
    due(x.order(7, 1, 3, 3, 1, 1), -1);
    due(x.order(7, 3, 1, 1, 3, 1), 1);
    // 5/4, 11/4, 1/2 and 3/2, 5/2, 1
    due(x.order(7, 5, 4, 3, 2, 3), -1);
    bad(() -> x.order(0, 1, 3, 3, 1, 1));
    bad(() -> x.order(0, 3, 1, 1, 3, 1));
  }

  @Promise(n = 10, says = {"MAPS 0 ..", "BAD: -2."})
  void promise10_onlyMaps0To7() {
    onlyMaps0To7(m -> x.order(m, 0, 1, 1, 1, 1));
  }

  // ---- promise 11: join

  @Promise(n = 11, says = {"Where a POINT is by m, then by other: a, b.", "BEHIND ONE ANOTHER: a POINT by one MAP"})
  void promise11_firstByMThenByOther() {
    lead(0, TENT);
    lead(7, DALE);
    joinIs(0, 7, 2, 7, 6, 7);
    joinIs(7, 0, 2, 7, 8, 7);
    lead(3, HILL);
    lead(4, 0, 2, 3, 1);
    joinIs(3, 4, 1, 3, 8, 3);
    joinIs(4, 3, 1, 3, 7, 3);
  }

  @Promise(n = 11, says = "Where a POINT is by m, then by other")
  void promise11_theSameMapTwice() {
    lead(0, TENT);
    joinIs(0, 0, 2, 7, 8, 7);
    joinIs(0, 0, 1, 8, 1, 2);
  }

  @Promise(n = 11, says = {"then by other: a, b.", "(a of 0: b is 1)"})
  void promise11_toldInLowestTermsAndB1For0() {
    lead(0, TENT);
    joinIs(0, 0, 2, 8, 1, 1);
    joinIs(0, 0, 4, 4, 0, 1);
    joinIs(0, 0, 0, 100000, 0, 1);
  }

  @Promise(n = 11, says = {"Where a POINT is by m", "n - 1 for n."})
  void promise11_thePointN() {
    lead(0, TENT);
    lead(1, DALE);
    joinIs(0, 1, 2, 1, 2, 1);
    joinIs(1, 0, 200000, 100000, 0, 1);
  }

  @Promise(n = 11, says = {"NO: -3: unlike many PIECES.", "another of as many PIECES."})
  void promise11_unlikeManyPiecesEitherWay() {
    lead(0, TENT);
    refused(() -> x.join(0, 1, 1, 2, 0), SpanMaps.NO);
    refused(() -> x.join(1, 0, 1, 2, 1), SpanMaps.NO);
  }

  @Promise(n = 11, says = {"NO: -3: unlike many PIECES.", "another of as many PIECES."})
  void promise11_asManyPiecesOfEachNumber() {
    for (int n = 1; n <= 5; n++) {
      x.map(0, n);
      x.map(1, n);
      x.corner(1, 0, n);
      joinIs(0, 1, n, 1, n, 1);
      x.map(1, n == 5 ? 4 : n + 1);
      refused(() -> x.join(0, 1, 0, 1, 0), SpanMaps.NO);
    }
  }

  @Promise(n = 11, says = "Refused, changing nothing, the first of: BAD -2 a number is not as told; NO -3 as told.")
  void promise11_badComesAheadOfNo() {
    lead(0, TENT);
    bad(() -> x.join(0, 1, 1, 2, 2));
    bad(() -> x.join(0, 1, 1, 2, -1));
    bad(() -> x.join(0, 1, 1, 0, 0));
    bad(() -> x.join(0, 1, -1, 1, 0));
    bad(() -> x.join(0, 1, 3, 1, 0));
    bad(() -> x.join(1, 0, 2, 1, 0));
  }

  @Promise(n = 11, says = {"Where a POINT is by m", "a 0 .. n b)", "unlike many PIECES."})
  void promise11_thePointIsOneOfMapM() {
    lead(0, TENT);
    // 2 is a point of map 0, which has two pieces, and none of map 1, which has one.
    refused(() -> x.join(0, 1, 2, 1, 0), SpanMaps.NO);
    bad(() -> x.join(1, 0, 2, 1, 0));
  }

  @Promise(n = 11, says = {"then by other: a, b.", "BAD: -2"})
  void promise11_whatIs0Or1Alone() {
    lead(0, TENT);
    for (int what : new int[] {-1, 2, LEAST, GREATEST}) {
      bad(() -> x.join(0, 0, 1, 2, what));
    }
  }

  @Promise(n = 11, says = {"(b 1 .. 100000", "BAD: -2"})
  void promise11_bBelow1() {
    lead(0, TENT);
    noBelowUnder1((a, b) -> x.join(0, 0, a, b, 0));
  }

  @Promise(n = 11, says = {"(b 1 .. 100000", "BAD: -2"})
  void promise11_bBeyond100000() {
    lead(0, TENT);
    noBelowOver100000((a, b) -> x.join(0, 0, a, b, 0));
  }

  @Promise(n = 11, says = {"a 0 .. n b)", "BAD: -2"})
  void promise11_aBelow0() {
    lead(0, TENT);
    noAboveUnder0((a, b) -> x.join(0, 0, a, b, 0));
  }

  @Promise(n = 11, says = {"a 0 .. n b)", "BAD: -2"})
  void promise11_aBeyondNTimesB() {
    lead(0, TENT);
    noAboveOverTwoB((a, b) -> x.join(0, 0, a, b, 0));
  }

  @Promise(n = 11, says = {"MAPS 0 ..", "BAD: -2"})
  void promise11_onlyMaps0To7EitherWay() {
    onlyMaps0To7(m -> x.join(m, 0, 0, 1, 0));
    onlyMaps0To7(other -> x.join(0, other, 0, 1, 0));
    onlyMaps0To7(m -> x.join(m, m, 0, 1, 0));
  }
}
