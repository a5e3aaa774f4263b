/** Promises 12 to 16: tables of spans over spans, ways, parts, and maps that mix. */
final class TablesCases extends Cases {
  private static final int[] ALL_OVER_ALL = {0, 5, 0, 5, 0, 5};
  // Span 0 leads over span 1, span 1 over both: ways of it are Fibonacci's numbers.
  private static final int[] FIBONACCI = {1, 2, 0};

  // ---- promise 12: table

  @Promise(n = 12, says = {"T(i, j).", "T(i, j) is 1 if the MAP leads SPAN i over all of SPAN j, else 0."})
  void promise12_risingAndFallingOverSomeOrAll() {
    lead(0, 1, 3, 0, 0);
    rows("T(0, j)", j -> x.table(0, 0, j), 0, 0, 1, 1);
    rows("T(1, j)", j -> x.table(0, 1, j), 0, 1, 1, 1);
  }

  @Promise(n = 12, says = "T(i, j) is 1 if the MAP leads SPAN i over all of SPAN j, else 0.")
  void promise12_aFlatPieceLeadsOverNoSpan() {
    lead(0, 1, 1, 2, 2);
    rows("T(0, j)", j -> x.table(0, 0, j), 0, 0, 0, 0);
    rows("T(2, j)", j -> x.table(0, 2, j), 0, 0, 0, 0);
  }

  @Promise(n = 12, says = "over all of SPAN j, else 0.")
  void promise12_aSpanThatIsOnlyTouchedIsNotLedOver() {
    lead(0, 1, 2, 1, 3);
    rows("T(0, j)", j -> x.table(0, 0, j), 0, 0, 1, 0);
    rows("T(1, j)", j -> x.table(0, 1, j), 0, 0, 1, 0);
    rows("T(2, j)", j -> x.table(0, 2, j), 0, 0, 1, 1);
  }

  @Promise(n = 12, says = "T(i, j).")
  void promise12_theFirstAndTheLastSpanOfFive() {
    lead(7, 0, 1, 1, 1, 4, 5);
    due(x.table(7, 0, 0), 1);
    due(x.table(7, 0, 4), 0);
    due(x.table(7, 4, 0), 0);
    due(x.table(7, 4, 4), 1);
  }

  @Promise(n = 12, says = {"SPAN i goes from i to i + 1.", "BAD."})
  void promise12_spansBelow0() {
    bad(() -> x.table(0, -1, 0));
    bad(() -> x.table(0, 0, -1));
    bad(() -> x.table(0, LEAST, 0));
    bad(() -> x.table(0, 0, LEAST));
  }

  @Promise(n = 12, says = {"SPAN i goes from i to i + 1.", "BAD."})
  void promise12_spansFromNOn() {
    for (int n = 1; n <= 5; n++) {
      int beyond = n;
      x.map(0, n);
      due(x.table(0, n - 1, n - 1), 0);
      bad(() -> x.table(0, beyond, 0));
      bad(() -> x.table(0, 0, beyond));
    }
    bad(() -> x.table(0, GREATEST, 0));
    bad(() -> x.table(0, 0, GREATEST));
  }

  @Promise(n = 12, says = {"MAPS 0 ..", "BAD."})
  void promise12_onlyMaps0To7() {
    onlyMaps0To7(m -> x.table(m, 0, 0));
  }

  // ---- promise 13: ways

  @Promise(n = 13, says = {"WAYS of k steps.", "WAYS of k steps (0 .. 10)"})
  void promise13_of0StepsEachSpanHasOneWayToItself() {
    lead(0, FIBONACCI);
    due(x.ways(0, 0, 0, 0), 1);
    due(x.ways(0, 0, 1, 0), 0);
    due(x.ways(0, 1, 0, 0), 0);
    due(x.ways(0, 1, 1, 0), 1);
    due("of a flat map", x.ways(1, 0, 0, 0), 1);
  }

  @Promise(n = 13, says = {"WAYS of k steps.", "the number at i, j in its k-th power."})
  void promise13_upTo10Steps() {
    lead(0, FIBONACCI);
    rows("0 to 0 of", k -> x.ways(0, 0, 0, k), 0, 1, 0, 1, 1, 2, 3, 5, 8, 13, 21, 34);
    rows("0 to 1 of", k -> x.ways(0, 0, 1, k), 0, 0, 1, 1, 2, 3, 5, 8, 13, 21, 34, 55);
    rows("1 to 0 of", k -> x.ways(0, 1, 0, k), 0, 0, 1, 1, 2, 3, 5, 8, 13, 21, 34, 55);
    rows("1 to 1 of", k -> x.ways(0, 1, 1, k), 0, 1, 1, 2, 3, 5, 8, 13, 21, 34, 55, 89);
  }

  @Promise(n = 13, says = "WAYS of k steps (0 .. 10) from SPAN i to j")
  void promise13_fromIToJAndNotFromJToI() {
    lead(3, 0, 2, 2);
    due(x.ways(3, 0, 1, 1), 1);
    due(x.ways(3, 1, 0, 1), 0);
    due(x.ways(3, 0, 1, 10), 1);
    due(x.ways(3, 1, 0, 10), 0);
  }

  @Promise(n = 13, says = "WAYS of k steps (0 .. 10)")
  void promise13_theMostWaysThatThereAre() {
    lead(0, ALL_OVER_ALL);
    due(x.ways(0, 0, 4, 10), 1953125);
    due(x.ways(0, 4, 0, 10), 1953125);
  }

  @Promise(n = 13, says = "the number at i, j in its k-th power.")
  void promise13_aSmallMapBehindALargeOneHasNoneOfItsWays() {
    lead(0, ALL_OVER_ALL);
    lead(1, 0, 1);
    due(x.ways(0, 0, 0, 10), 1953125);
    due(x.ways(1, 0, 0, 10), 1);
    due(x.ways(2, 0, 0, 10), 0);
  }

  @Promise(n = 13, says = {"WAYS of k steps (0 .. 10)", "BAD: -2."})
  void promise13_stepsBelow0() {
    bad(() -> x.ways(0, 0, 0, -1));
    bad(() -> x.ways(0, 0, 0, LEAST));
  }

  @Promise(n = 13, says = {"WAYS of k steps (0 .. 10)", "BAD: -2."})
  void promise13_stepsBeyond10() {
    bad(() -> x.ways(0, 0, 0, 11));
    bad(() -> x.ways(0, 0, 0, GREATEST));
  }

  @Promise(n = 13, says = "BAD: -2.")
  void promise13_spansBelow0() {
    bad(() -> x.ways(0, -1, 0, 1));
    bad(() -> x.ways(0, 0, -1, 1));
    bad(() -> x.ways(0, LEAST, LEAST, 0));
  }

  @Promise(n = 13, says = "BAD: -2.")
  void promise13_spansFromNOn() {
    for (int n = 1; n <= 5; n++) {
      int beyond = n;
      x.map(0, n);
      due(x.ways(0, n - 1, n - 1, 0), 1);
      bad(() -> x.ways(0, beyond, 0, 1));
      bad(() -> x.ways(0, 0, beyond, 1));
    }
    bad(() -> x.ways(0, GREATEST, GREATEST, 0));
  }

  @Promise(n = 13, says = {"MAPS 0 ..", "BAD: -2."})
  void promise13_onlyMaps0To7() {
    onlyMaps0To7(m -> x.ways(m, 0, 0, 1));
  }

  // ---- promise 14: pieces

  @Promise(n = 14, says = "WAYS of k steps from all SPANS to all together")
  void promise14_of0StepsThereAreAsManyAsSpans() {
    for (int n = 1; n <= 5; n++) {
      x.map(0, n);
      due(x.pieces(0, 0), n);
    }
  }

  @Promise(n = 14, says = {"WAYS of k steps from all SPANS to all together", "WAYS of k steps (0 .. 10)"})
  void promise14_upTo10Steps() {
    lead(0, FIBONACCI);
    rows("pieces", k -> x.pieces(0, k), 0, 2, 3, 5, 8, 13, 21, 34, 55, 89, 144, 233);
  }

  @Promise(n = 14, says = "how many PIECES (with a SLOPE not 0) k steps of the MAP have, cut at whole numbers.")
  void promise14_flatPiecesAreNotCounted() {
    rows("pieces of a flat map", k -> x.pieces(0, k), 1, 0, 0, 0);
    lead(1, 0, 2, 2);
    rows("pieces with one flat piece", k -> x.pieces(1, k), 0, 2, 2, 2, 2);
    lead(2, 1, 3, 3, 2);
    rows("pieces that end flat", k -> x.pieces(2, k), 0, 3, 3, 2, 2);
  }

  @Promise(n = 14, says = "WAYS of k steps from all SPANS to all together")
  void promise14_theMostPiecesThatThereAre() {
    lead(0, ALL_OVER_ALL);
    due(x.pieces(0, 10), 48828125);
  }

  @Promise(n = 14, says = {"WAYS of k steps (0 .. 10)", "BAD: -2."})
  void promise14_stepsBelow0() {
    bad(() -> x.pieces(0, -1));
    bad(() -> x.pieces(0, LEAST));
  }

  @Promise(n = 14, says = {"WAYS of k steps (0 .. 10)", "BAD: -2."})
  void promise14_stepsBeyond10() {
    bad(() -> x.pieces(0, 11));
    bad(() -> x.pieces(0, GREATEST));
  }

  @Promise(n = 14, says = {"MAPS 0 ..", "BAD: -2."})
  void promise14_onlyMaps0To7() {
    onlyMaps0To7(m -> x.pieces(m, 1));
  }

  // ---- promise 15: part

  @Promise(n = 15, says = {"The PART of a SPAN.", "or i is j"})
  void promise15_aSpanWithoutWaysIsAPartOfItsOwn() {
    x.map(0, 5);
    rows("part of a flat map", i -> x.part(0, i), 0, 0, 1, 2, 3, 4);
  }

  @Promise(n = 15, says = "lead from i to j and from j to i")
  void promise15_aWayThatLeadsButOneWayMakesNoPart() {
    lead(0, 0, 0, 2);
    rows("part", i -> x.part(0, i), 0, 0, 1);
    lead(1, 0, 2, 2);
    rows("part the other way", i -> x.part(1, i), 0, 0, 1);
  }

  @Promise(n = 15, says = "it is told by its least SPAN.")
  void promise15_toldByTheLeastSpanEvenIfThatIsNot0() {
    lead(0, 1, 0, 2, 3, 5, 3);
    rows("part", i -> x.part(0, i), 0, 0, 1, 2, 3, 3);
    lead(1, 0, 1, 3, 1);
    rows("part", i -> x.part(1, i), 0, 0, 1, 1);
  }

  @Promise(n = 15, says = "it is told by its least SPAN.")
  void promise15_aPartWithASpanOfAnotherBetween() {
    lead(0, 2, 3, 1, 0);
    rows("part", i -> x.part(0, i), 0, 0, 1, 0);
  }

  @Promise(n = 15, says = "if WAYS (of some number of steps) lead")
  void promise15_waysAsLongAsTheMapHasSpans() {
    lead(0, 1, 2, 3, 4, 5, 0);
    rows("part", i -> x.part(0, i), 0, 0, 0, 0, 0, 0);
    lead(1, 2, 1, 0);
    rows("part of two that change places", i -> x.part(1, i), 0, 0, 0);
  }

  @Promise(n = 15, says = {"The PART of a SPAN.", "BAD."})
  void promise15_spansBelow0() {
    bad(() -> x.part(0, -1));
    bad(() -> x.part(0, LEAST));
  }

  @Promise(n = 15, says = {"The PART of a SPAN.", "BAD."})
  void promise15_spansFromNOn() {
    for (int n = 1; n <= 5; n++) {
      int beyond = n;
      x.map(0, n);
      due(x.part(0, n - 1), n - 1);
      bad(() -> x.part(0, beyond));
    }
    bad(() -> x.part(0, GREATEST));
  }

  @Promise(n = 15, says = {"MAPS 0 ..", "BAD."})
  void promise15_onlyMaps0To7() {
    onlyMaps0To7(m -> x.part(m, 0));
  }

  // ---- promise 16: mixes

  @Promise(n = 16, says = "The least k for which the MAP MIXES (1 on).")
  void promise16_inOneStepAtTheLeast() {
    lead(0, 0, 1);
    lead(1, 1, 0);
    lead(2, ALL_OVER_ALL);
    rows("mixes", m -> x.mixes(m), 0, 1, 1, 1);
  }

  @Promise(n = 16, says = {"The least k for which the MAP MIXES (1 on).",
      "if for some k WAYS of k steps lead from each SPAN to each."})
  void promise16_inAsManyStepsAsEachNumberOfPiecesCanNeed() {
    lead(2, FIBONACCI);
    lead(3, 1, 3, 2, 0);
    lead(4, 4, 3, 1, 0, 2);
    lead(5, 5, 4, 2, 1, 0, 3);
    rows("mixes", m -> x.mixes(m), 2, 2, 4, 6, 8);
  }

  @Promise(n = 16, says = "NONE: it does not.")
  void promise16_aFlatMapDoesNot() {
    for (int n = 1; n <= 5; n++) {
      x.map(0, n);
      due(x.mixes(0), -1);
    }
  }

  @Promise(n = 16, says = {"NONE: it does not.", "lead from each SPAN to each."})
  void promise16_aMapOfSeveralPartsDoesNot() {
    lead(0, 0, 1, 2);
    lead(1, 0, 2, 2);
    lead(2, 2, 0, 0);
    lead(3, 0, 1, 3, 1);
    rows("mixes", m -> x.mixes(m), 0, -1, -1, -1, -1);
  }

  @Promise(n = 16, says = {"NONE: it does not.", "if for some k"})
  void promise16_onePartThatGoesToAndFroDoesNot() {
    lead(0, 2, 1, 0);
    lead(1, 2, 4, 2, 0, 2);
    rows("mixes", m -> x.mixes(m), 0, -1, -1);
    rows("part", i -> x.part(1, i), 0, 0, 0, 0, 0);
  }

  @Promise(n = 16, says = {"MAPS 0 ..", "BAD."})
  void promise16_onlyMaps0To7() {
    onlyMaps0To7(m -> x.mixes(m));
  }
}
