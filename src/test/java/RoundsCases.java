import java.util.function.Consumer;
import java.util.function.IntToLongFunction;

/** Promises 17 to 22: points that come back, their periods, and what one such number forces. */
final class RoundsCases extends Cases {
  private static final int[] ALL_OVER_ALL = {0, 5, 0, 5, 0, 5};
  // Every point comes back at once, or in two steps.
  private static final int[] STILL = {0, 1};
  private static final int[] TURNED = {1, 0};
  // The first span is still beside a tent, in which every number is the period of some point.
  private static final int[] STILL_BESIDE_TENT = {0, 1, 3, 1};
  // Spans 0 and 2 change places and are turned about on the way: all come back in four steps.
  private static final int[] FOUR = {2, 3, 1, 0};
  // Spans 0, 2 and 4 go round in three steps; spans 1 and 3 have Lucas' numbers of closed ways.
  private static final int[] THREE = {2, 3, 4, 5, 0, 1};
  // The same, but turned about on the way: three points in three steps, all points in six.
  private static final int[] SIX = {3, 2, 4, 5, 0, 1};
  // Spans 0, 3, 1 and 4 go round in four steps; the corners 1 and 4 between them in two.
  private static final int[] PAIRS = {3, 4, 5, 2, 1, 0};
  // All six corners go round: 0, 3, 2, 4, 1, 5.
  private static final int[] SIX_CORNERS = {3, 5, 4, 2, 1, 0};

  private void roundIs(int k, int i, long a, long b) {
    due("round " + i + " of " + k + ": a", x.round(0, k, i, 0), a);
    due("round " + i + " of " + k + ": b", x.round(0, k, i, 1), b);
  }

  private void wrongSteps(IntToLongFunction call, int... steps) {
    for (int k : steps) {
      bad(() -> call.applyAsLong(k));
    }
  }

  /** All rounds of k rise, come back in k steps, and are as many as rounds says. */
  private void allRise(int[] led, int k, int many) {
    Fraction last = Fraction.of(-1, 1);
    for (int i = 0; i < many; i++) {
      SpanMaps y = with(led);
      Fraction now = new Fraction(y.round(0, k, i, 0), y.round(0, k, i, 1));
      due("round " + i + " of " + k + " rises", now.compareTo(last), 1);
      due("round " + i + " of " + k + " comes back: a", y.far(0, now.above(), now.below(), k, 0), now.above());
      due("round " + i + " of " + k + " comes back: b", y.far(0, now.above(), now.below(), k, 1), now.below());
      last = now;
    }
    due("rounds of " + k, with(led).rounds(0, k), many);
    due("one round more", with(led).round(0, k, many, 0), -1);
  }

  private static void eachMapOfUpToThreePieces(Consumer<SpanMaps> look) {
    for (int n = 1; n <= 3; n++) {
      int[] led = new int[n + 1];
      int at = 0;
      while (at <= n) {
        look.accept(with(led));
        at = 0;
        while (at <= n && led[at] == n) {
          led[at++] = 0;
        }
        if (at <= n) {
          led[at]++;
        }
      }
    }
  }

  // ---- promise 17: rounds

  @Promise(n = 17, says = {"How many ROUNDS of k.",
      "ROUNDS of k (1 .. 6): all POINTS that are led to themselves in k steps."})
  void promise17_of1To6Steps() {
    lead(0, TENT);
    rows("rounds", k -> x.rounds(0, k), 1, 2, 4, 8, 16, 32, 64);
  }

  @Promise(n = 17, says = "How many ROUNDS of k.")
  void promise17_theMostThatThereAre() {
    lead(0, ALL_OVER_ALL);
    rows("rounds", k -> x.rounds(0, k), 1, 5, 25, 125, 625, 3125, 15625);
  }

  @Promise(n = 17, says = "How many ROUNDS of k.")
  void promise17_theFewestIsOne() {
    rows("rounds of a flat map", k -> x.rounds(0, k), 1, 1, 1, 1, 1, 1, 1);
    lead(1, 1, 1, 1);
    rows("rounds of a flat map in the middle", k -> x.rounds(1, k), 1, 1, 1, 1, 1, 1, 1);
    lead(2, 3, 3, 3, 3);
    rows("rounds of a flat map at n", k -> x.rounds(2, k), 1, 1, 1, 1, 1, 1, 1);
  }

  @Promise(n = 17, says = "all POINTS that are led to themselves in k steps.")
  void promise17_aCornerBetweenTwoPiecesIsOnePoint() {
    lead(0, 0, 0, 2, 4, 4);
    rows("rising through it", k -> x.rounds(0, k), 1, 3, 3, 3, 3, 3, 3);
    lead(1, 2, 1, 0);
    due("falling through it", x.rounds(1, 1), 1);
    lead(2, 0, 1, 0);
    due("with the still span that ends there", x.rounds(2, 1), -1);
    lead(3, 0, 2, 1);
    rows("corners 1 and 2 that change places", k -> x.rounds(3, k), 1, 2, -1, 2, -1, 2, -1);
  }

  @Promise(n = 17, says = "all POINTS that are led to themselves in k steps.")
  void promise17_cornersThatComeBackSoonerThanTheirSpans() {
    lead(0, PAIRS);
    rows("rounds", k -> x.rounds(0, k), 1, 1, 3, 1, -1, 1, 3);
  }

  @Promise(n = 17, says = "all POINTS that are led to themselves in k steps.")
  void promise17_sixCornersThatGoRound() {
    lead(0, SIX_CORNERS);
    rows("rounds", k -> x.rounds(0, k), 1, 1, 3, 1, 7, 1, 9);
  }

  @Promise(n = 17, says = {"NONE: they are ENDLESS.", "They are ENDLESS if a SPAN of POINTS is (of some width)."})
  void promise17_endlessAtOnceAndSoForEachK() {
    lead(0, STILL);
    rows("all still", k -> x.rounds(0, k), 1, -1, -1, -1, -1, -1, -1);
    lead(1, STILL_BESIDE_TENT);
    rows("a still span beside others", k -> x.rounds(1, k), 1, -1, -1, -1, -1, -1, -1);
    lead(2, 5, 5, 5, 5, 4, 5);
    rows("the last span", k -> x.rounds(2, k), 1, -1, -1, -1, -1, -1, -1);
  }

  @Promise(n = 17, says = {"NONE: they are ENDLESS.", "They are ENDLESS if a SPAN of POINTS is (of some width)."})
  void promise17_endlessIn2StepsButNotInOddOnes() {
    lead(0, TURNED);
    rows("turned about", k -> x.rounds(0, k), 1, 1, -1, 1, -1, 1, -1);
    lead(1, 4, 4, 4, 4, 5, 4);
    rows("the last span turned about", k -> x.rounds(1, k), 1, 1, -1, 1, -1, 1, -1);
  }

  @Promise(n = 17, says = {"NONE: they are ENDLESS.", "They are ENDLESS if a SPAN of POINTS is (of some width)."})
  void promise17_endlessIn3In4AndIn6StepsAlone() {
    lead(0, THREE);
    rows("in three and six", k -> x.rounds(0, k), 1, 1, 3, -1, 7, 11, -1);
    lead(1, FOUR);
    rows("in four", k -> x.rounds(1, k), 1, 1, 3, 1, -1, 1, 3);
    lead(2, SIX);
    rows("in six", k -> x.rounds(2, k), 1, 1, 3, 7, 7, 11, -1);
  }

  @Promise(n = 17, says = "(of some width)")
  void promise17_onePointOfASlopeMinus1IsOfNoWidth() {
    lead(0, 2, 1, 0);
    due(x.rounds(0, 1), 1);
    due(x.rounds(0, 2), -1);
  }

  @Promise(n = 17, says = {"ROUNDS of k (1 .. 6)", "BAD."})
  void promise17_stepsBelow1() {
    wrongSteps(k -> x.rounds(0, k), 0, -1, LEAST);
  }

  @Promise(n = 17, says = {"ROUNDS of k (1 .. 6)", "BAD."})
  void promise17_stepsBeyond6() {
    wrongSteps(k -> x.rounds(0, k), 7, GREATEST);
  }

  @Promise(n = 17, says = {"MAPS 0 ..", "BAD."})
  void promise17_onlyMaps0To7() {
    onlyMaps0To7(m -> x.rounds(m, 1));
  }

  // ---- promise 18: round

  @Promise(n = 18, says = "The i-th of them, as they rise: a, b.")
  void promise18_the0thIsTheLeast() {
    lead(0, TENT);
    roundIs(1, 0, 0, 1);
    roundIs(6, 0, 0, 1);
    lead(0, 2, 0, 2);
    roundIs(1, 0, 2, 3);
  }

  @Promise(n = 18, says = "The i-th of them, as they rise: a, b.")
  void promise18_theLastOnes() {
    lead(0, TENT);
    roundIs(1, 1, 4, 3);
    roundIs(2, 3, 8, 5);
    roundIs(6, 63, 128, 65);
    lead(0, 2, 0, 2);
    roundIs(1, 1, 2, 1);
    lead(0, ALL_OVER_ALL);
    roundIs(6, 15624, 5, 1);
  }

  @Promise(n = 18, says = "The i-th of them, as they rise: a, b.")
  void promise18_allRise() {
    lead(0, TENT);
    roundIs(2, 0, 0, 1);
    roundIs(2, 1, 4, 5);
    roundIs(2, 2, 4, 3);
    roundIs(2, 3, 8, 5);
    allRise(TENT, 6, 64);
    allRise(THREE, 5, 11);
    allRise(SIX, 4, 7);
    allRise(ALL_OVER_ALL, 5, 3125);
  }

  @Promise(n = 18, says = "The i-th of them, as they rise: a, b.")
  void promise18_cornersAndPointsBetweenThem() {
    lead(0, PAIRS);
    roundIs(2, 0, 1, 1);
    roundIs(2, 1, 11, 4);
    roundIs(2, 2, 4, 1);
    lead(0, SIX_CORNERS);
    long[][] want = {{0, 1}, {2, 3}, {1, 1}, {2, 1}, {8, 3}, {3, 1}, {4, 1}, {13, 3}, {5, 1}};
    for (int i = 0; i < want.length; i++) {
      roundIs(6, i, want[i][0], want[i][1]);
    }
    due(x.round(0, 6, want.length, 0), -1);
  }

  @Promise(n = 18, says = {"as they rise: a, b.", "tell themselves in lowest terms (a of 0: b is 1)"})
  void promise18_inLowestTermsAndB1For0() {
    lead(0, 0, 2, 2);
    due("0 by 1", x.round(0, 6, 0, 1), 1);
    lead(0, FOUR);
    // 1/2 and 5/2 would be 2/4 and 10/4 in the way they are found.
    roundIs(2, 0, 1, 2);
    roundIs(2, 1, 5, 3);
    roundIs(2, 2, 5, 2);
  }

  @Promise(n = 18, says = {"BAD: -2, also i below 0", "Refused, changing nothing"})
  void promise18_iBelow0() {
    lead(0, TENT);
    bad(() -> x.round(0, 1, -1, 0));
    bad(() -> x.round(0, 1, LEAST, 1));
  }

  @Promise(n = 18, says = "NONE: ENDLESS, not so many.")
  void promise18_notSoMany() {
    lead(0, TENT);
    for (int k = 1; k <= 6; k++) {
      due(x.round(0, k, 1 << k, 0), -1);
      due(x.round(0, k, 1 << k, 1), -1);
    }
    due(x.round(0, 1, GREATEST, 0), -1);
    due("of a flat map", x.round(1, 6, 1, 0), -1);
  }

  @Promise(n = 18, says = "NONE: ENDLESS, not so many.")
  void promise18_endless() {
    lead(0, STILL);
    due(x.round(0, 1, 0, 0), -1);
    due(x.round(0, 6, 0, 1), -1);
    lead(1, TURNED);
    due(x.round(1, 1, 0, 0), 1);
    due(x.round(1, 1, 0, 1), 2);
    due(x.round(1, 2, 0, 0), -1);
    lead(2, STILL_BESIDE_TENT);
    due(x.round(2, 3, 0, 0), -1);
    lead(3, SIX);
    due(x.round(3, 6, 0, 0), -1);
    due(x.round(3, 3, 0, 0), 1);
  }

  @Promise(n = 18, says = {"Refused, changing nothing, the first of: BAD -2", "NONE: ENDLESS"})
  void promise18_badComesAheadOfEndlessAndNotSoMany() {
    lead(0, STILL);
    bad(() -> x.round(0, 3, -1, 0));
    bad(() -> x.round(0, 3, 0, 2));
    bad(() -> x.round(0, 7, 0, 0));
    lead(1, TENT);
    bad(() -> x.round(1, 1, 99, 2));
    bad(() -> x.round(1, 0, 99, 0));
  }

  @Promise(n = 18, says = {"as they rise: a, b.", "BAD: -2"})
  void promise18_whatIs0Or1Alone() {
    lead(0, TENT);
    for (int what : new int[] {-1, 2, LEAST, GREATEST}) {
      bad(() -> x.round(0, 1, 0, what));
    }
  }

  @Promise(n = 18, says = {"ROUNDS of k (1 .. 6)", "BAD: -2"})
  void promise18_stepsBelow1() {
    wrongSteps(k -> x.round(0, k, 0, 0), 0, -1, LEAST);
  }

  @Promise(n = 18, says = {"ROUNDS of k (1 .. 6)", "BAD: -2"})
  void promise18_stepsBeyond6() {
    wrongSteps(k -> x.round(0, k, 0, 0), 7, GREATEST);
  }

  @Promise(n = 18, says = {"MAPS 0 ..", "BAD: -2"})
  void promise18_onlyMaps0To7() {
    onlyMaps0To7(m -> x.round(m, 1, 0, 0));
  }

  // ---- promise 19: period

  @Promise(n = 19, says = {"How many POINTS have the PERIOD k.", "and of no lesser number of steps."})
  void promise19_onlyThoseOfNoLesserNumberOfSteps() {
    lead(0, TENT);
    rows("period", k -> x.period(0, k), 1, 2, 2, 6, 12, 30, 54);
    lead(1, SIX_CORNERS);
    rows("period of six corners", k -> x.period(1, k), 1, 1, 2, 0, 4, 0, 6);
  }

  @Promise(n = 19, says = "How many POINTS have the PERIOD k.")
  void promise19_theMostThatThereAre() {
    lead(0, ALL_OVER_ALL);
    rows("period", k -> x.period(0, k), 1, 5, 20, 120, 600, 3120, 15480);
  }

  @Promise(n = 19, says = "How many POINTS have the PERIOD k.")
  void promise19_noneHasItIs0() {
    rows("period of a flat map", k -> x.period(0, k), 1, 1, 0, 0, 0, 0, 0);
  }

  @Promise(n = 19, says = "NONE: ROUNDS of k are ENDLESS.")
  void promise19_endlessEvenIfNoPointHasJustThisPeriod() {
    lead(0, STILL);
    rows("all still", k -> x.period(0, k), 1, -1, -1, -1, -1, -1, -1);
    lead(1, TURNED);
    rows("turned about", k -> x.period(1, k), 1, 1, -1, 0, -1, 0, -1);
  }

  @Promise(n = 19, says = "NONE: ROUNDS of k are ENDLESS.")
  void promise19_endlessForSomeKAndNotForOthers() {
    lead(0, THREE);
    rows("in three and six", k -> x.period(0, k), 1, 1, 2, -1, 4, 10, -1);
    lead(1, FOUR);
    rows("in four", k -> x.period(1, k), 1, 1, 2, 0, -1, 0, 0);
    lead(2, SIX);
    rows("in six", k -> x.period(2, k), 1, 1, 2, 6, 4, 10, -1);
    lead(3, PAIRS);
    rows("pairs", k -> x.period(3, k), 1, 1, 2, 0, -1, 0, 0);
  }

  @Promise(n = 19, says = {"ROUNDS of k (1 .. 6)", "BAD."})
  void promise19_stepsBelow1() {
    wrongSteps(k -> x.period(0, k), 0, -1, LEAST);
  }

  @Promise(n = 19, says = {"ROUNDS of k (1 .. 6)", "BAD."})
  void promise19_stepsBeyond6() {
    wrongSteps(k -> x.period(0, k), 7, GREATEST);
  }

  @Promise(n = 19, says = {"MAPS 0 ..", "BAD."})
  void promise19_onlyMaps0To7() {
    onlyMaps0To7(m -> x.period(m, 1));
  }

  // ---- promise 20: has

  @Promise(n = 20, says = "Whether some POINT has the PERIOD k")
  void promise20_hasAllOrOnly1() {
    lead(0, TENT);
    rows("has of the tent", k -> x.has(0, k), 1, 1, 1, 1, 1, 1, 1);
    rows("has of a flat map", k -> x.has(1, k), 1, 1, 0, 0, 0, 0, 0);
    lead(2, SIX_CORNERS);
    rows("has of six corners", k -> x.has(2, k), 1, 1, 1, 0, 1, 0, 1);
  }

  @Promise(n = 20, says = "(also of ENDLESS ROUNDS): 1, 0.")
  void promise20_endlessRoundsThatSomePointHasAsItsPeriod() {
    lead(0, STILL);
    due(x.has(0, 1), 1);
    lead(1, TURNED);
    due(x.has(1, 1), 1);
    due(x.has(1, 2), 1);
    lead(2, FOUR);
    rows("has, in four", k -> x.has(2, k), 1, 1, 1, 0, 1, 0, 0);
    lead(3, PAIRS);
    rows("has, pairs", k -> x.has(3, k), 1, 1, 1, 0, 1, 0, 0);
    lead(4, SIX);
    rows("has, in six", k -> x.has(4, k), 1, 1, 1, 1, 1, 1, 1);
  }

  @Promise(n = 20, says = "(also of ENDLESS ROUNDS): 1, 0.")
  void promise20_endlessRoundsOfTheLastSpanAlone() {
    lead(0, 4, 4, 4, 4, 5, 4);
    rows("has, the last span turned about", k -> x.has(0, k), 1, 1, 1, 0, 0, 0, 0);
    lead(1, 5, 5, 5, 5, 4, 5);
    rows("has, the last span still", k -> x.has(1, k), 1, 1, 0, 0, 0, 0, 0);
  }

  @Promise(n = 20, says = "(also of ENDLESS ROUNDS): 1, 0.")
  void promise20_endlessRoundsThatNoPointHasAsItsPeriod() {
    lead(0, STILL);
    rows("has, all still", k -> x.has(0, k), 2, 0, 0, 0, 0, 0);
    lead(1, TURNED);
    rows("has, turned about", k -> x.has(1, k), 3, 0, 0, 0, 0);
    lead(2, 0, 1, 2, 3, 4, 5);
    rows("has, five still", k -> x.has(2, k), 1, 1, 0, 0, 0, 0, 0);
    lead(3, 5, 4, 3, 2, 1, 0);
    rows("has, five turned about", k -> x.has(3, k), 1, 1, 1, 0, 0, 0, 0);
  }

  @Promise(n = 20, says = "(also of ENDLESS ROUNDS): 1, 0.")
  void promise20_endlessRoundsBesideOtherPointsOfThePeriod() {
    lead(0, STILL_BESIDE_TENT);
    rows("has beside a still span", k -> x.has(0, k), 1, 1, 1, 1, 1, 1, 1);
  }

  @Promise(n = 20, says = {"ROUNDS of k (1 .. 6)", "BAD."})
  void promise20_stepsBelow1() {
    wrongSteps(k -> x.has(0, k), 0, -1, LEAST);
  }

  @Promise(n = 20, says = {"ROUNDS of k (1 .. 6)", "BAD."})
  void promise20_stepsBeyond6() {
    wrongSteps(k -> x.has(0, k), 7, GREATEST);
  }

  @Promise(n = 20, says = {"MAPS 0 ..", "BAD."})
  void promise20_onlyMaps0To7() {
    onlyMaps0To7(m -> x.has(m, 1));
  }

  // ---- promise 21: forces

  private static final int[] FORCING = {
    3, 5, 7, 9, 11, 13, 15, 17, 19, 21, 23, 25, 27, 29, 31, 33,
    35, 37, 39, 41, 43, 45, 47, 49, 51, 53, 55, 57, 59, 61, 63,
    6, 10, 14, 18, 22, 26, 30, 34, 38, 42, 46, 50, 54, 58, 62,
    12, 20, 28, 36, 44, 52, 60,
    24, 40, 56,
    48,
    64, 32, 16, 8, 4, 2, 1
  };

  @Promise(n = 21, says = {"FORCING: 1, 0.", "or p comes ahead of q in this order: 3, 5, 7, 9"})
  void promise21_eachNumberAndEachOther() {
    due("so many numbers", FORCING.length, 64);
    for (int p = 0; p < FORCING.length; p++) {
      SpanMaps y = new SpanMaps();
      for (int q = 0; q < FORCING.length; q++) {
        due(FORCING[p] + " forces " + FORCING[q], y.forces(FORCING[p], FORCING[q]), p <= q ? 1 : 0);
      }
    }
  }

  private void ahead(int p, int q) {
    due(p + " forces " + q, x.forces(p, q), 1);
    due(q + " forces " + p, x.forces(q, p), 0);
  }

  @Promise(n = 21, says = "p forces q, if p is q")
  void promise21_eachNumberForcesItself() {
    for (int p = 1; p <= 64; p++) {
      due(x.forces(p, p), 1);
    }
  }

  @Promise(n = 21, says = "3, 5, 7, 9, .. all odd ones from 3 on; then twice these, 6, 10, 14, ..")
  void promise21_theLastOddOneIsAheadOfTheFirstTwiceOdd() {
    ahead(3, 5);
    ahead(61, 63);
    ahead(63, 6);
    ahead(63, 62);
    ahead(3, 6);
  }

  @Promise(n = 21, says = "then twice these, 6, 10, 14, ..; then four times these, and so on")
  void promise21_theLastOfEachRowIsAheadOfTheFirstOfTheNext() {
    ahead(6, 10);
    ahead(62, 12);
    ahead(60, 24);
    ahead(24, 40);
    ahead(56, 48);
  }

  @Promise(n = 21, says = "behind all of them the powers of 2 falling, .. 16, 8, 4, 2, 1.")
  void promise21_powersOf2ComeLastAndFall() {
    ahead(48, 64);
    ahead(63, 64);
    ahead(64, 32);
    ahead(16, 8);
    ahead(2, 1);
    ahead(3, 1);
    ahead(6, 4);
    ahead(64, 1);
  }

  @Promise(n = 21, says = {"FORCING, for numbers p, q (1 .. 64)", "BAD."})
  void promise21_numbersBelow1() {
    for (int wrong : new int[] {0, -1, -3, LEAST}) {
      bad(() -> x.forces(wrong, 1));
      bad(() -> x.forces(1, wrong));
      bad(() -> x.forces(wrong, wrong));
    }
  }

  @Promise(n = 21, says = {"FORCING, for numbers p, q (1 .. 64)", "BAD."})
  void promise21_numbersBeyond64() {
    for (int wrong : new int[] {65, 66, 128, GREATEST}) {
      bad(() -> x.forces(wrong, 1));
      bad(() -> x.forces(3, wrong));
      bad(() -> x.forces(wrong, wrong));
    }
  }

  // ---- promise 22: most

  @Promise(n = 22, says = "The number k of 1 .. 6 that forces all others that the MAP has of these.")
  void promise22_eachNumberThatItCanBe() {
    lead(1, TURNED);
    lead(2, TENT);
    lead(3, FOUR);
    lead(4, 2, 4, 3, 1, 0);
    lead(5, SIX_CORNERS);
    rows("most", m -> x.most(m), 0, 1, 2, 3, 4, 5, 6);
  }

  @Promise(n = 22, says = "that forces all others that the MAP has of these.")
  void promise22_aLesserNumberThatTheMapHasTooIsNotIt() {
    lead(0, SIX_CORNERS);
    rows("has", k -> x.has(0, k), 1, 1, 1, 0, 1, 0, 1);
    due(x.most(0), 6);
    lead(1, 2, 4, 3, 1, 0);
    rows("has", k -> x.has(1, k), 1, 1, 1, 0, 1, 1, 1);
    due(x.most(1), 5);
  }

  @Promise(n = 22, says = "that forces all others that the MAP has of these.")
  void promise22_withEndlessRounds() {
    lead(0, STILL);
    lead(1, STILL_BESIDE_TENT);
    lead(2, PAIRS);
    lead(3, SIX);
    lead(4, 0, 1, 2, 3, 4, 5);
    lead(5, 5, 4, 3, 2, 1, 0);
    rows("most", m -> x.most(m), 0, 1, 3, 4, 3, 1, 2);
  }

  @Promise(n = 22, says = "that forces all others that the MAP has of these.")
  void promise22_ofEachMapOfUpToThreePieces() {
    eachMapOfUpToThreePieces(y -> {
      int most = y.most(0);
      due("has the most", y.has(0, most), 1);
      for (int k = 1; k <= 6; k++) {
        due("most and " + k, y.has(0, k) == 0 ? 1 : y.forces(most, k), 1);
      }
    });
  }

  @Promise(n = 22, says = "(It has 1 always.)")
  void promise22_eachMapHas1() {
    eachMapOfUpToThreePieces(y -> due(y.has(0, 1), 1));
  }

  @Promise(n = 22, says = {"MAPS 0 ..", "BAD."})
  void promise22_onlyMaps0To7() {
    onlyMaps0To7(m -> x.most(m));
  }
}
