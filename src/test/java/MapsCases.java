/** Promises 1 to 7: a new object, and how maps are made, changed and told. */
final class MapsCases extends Cases {

  // ---- promise 1: a new object

  @Promise(n = 1, says = {"All MAPS have one PIECE", "1 at first"})
  void promise1_eachMapHasOnePieceAndNoSecond() {
    for (int m = 0; m < MAPS; m++) {
      due(x.slope(m, 0), 0);
      due(x.slope(m, 1), -100);
    }
  }

  @Promise(n = 1, says = {"both CORNERS led to 0", "(0 at first)"})
  void promise1_bothCornersAreLedTo0() {
    for (int m = 0; m < MAPS; m++) {
      ledTo(m, 0, 0);
    }
  }

  @Promise(n = 1, says = {"All MAPS", "MAPS 0 ..", "7 have n PIECES"})
  void promise1_mapsAre0To7() {
    due(x.cornerAt(0, 0), 0);
    due(x.cornerAt(7, 0), 0);
    due(x.cornerAt(-1, 0), -2);
    due(x.cornerAt(8, 0), -2);
  }

  @Promise(n = 1, says = "All MAPS have one PIECE, both CORNERS led to 0.")
  void promise1_aSecondObjectIsNewWhateverTheFirstWent() {
    SpanMaps first = with(5, 4, 3, 2, 1, 0);
    due(first.rounds(0, 2), -1);
    for (int m = 0; m < MAPS; m++) {
      ledTo(m, 0, 0);
    }
    SpanMaps second = new SpanMaps();
    due(x.map(3, 2), 1);
    due(second.slope(3, 1), -100);
    due(second.digest(), new SpanMaps().digest());
  }

  @Promise(n = 1, says = "An object is used for at most 512 calls after it has been made")
  void promise1_call512IsAnsweredAsTheFirstOnesAre() {
    SpanMaps y = with(0, 5, 0, 5, 0, 5);
    for (int call = 8; call <= 511; call++) {
      due("call " + call, y.rounds(0, 6), 15625);
    }
    due("call 512", y.round(0, 6, 15624, 0), 5);
  }

  @Promise(n = 1, says = "An object is used for at most 512 calls after it has been made")
  void promise1_call512ChangesAMapStill() {
    due("call 1", x.map(7, 5), 1);
    for (int call = 2; call <= 511; call++) {
      due("call " + call, x.corner(7, 5, call % 6), call == 2 ? 0 : (call - 1) % 6);
    }
    due("call 512", x.corner(7, 5, 0), 511 % 6);
  }

  @Promise(n = 1, says = "what later calls answer is free.")
  void promise1_callsBeyond512AnswerAtLeastSomething() {
    for (int call = 1; call <= 2000; call++) {
      x.map(call % 9, call % 7);
      x.corner(call % 8, call % 6, call % 5);
      x.round(call % 8, call % 7, call % 3, call % 2);
    }
    due(x.digest(), x.digest());
  }

  // ---- promise 2: map

  @Promise(n = 2, says = {"A MAP has n PIECES", "n PIECES (1 .. 5"})
  void promise2_onePieceIsTheFewest() {
    due(x.map(0, 1), 1);
    ledTo(0, 0, 0);
  }

  @Promise(n = 2, says = {"A MAP has n PIECES", "n PIECES (1 .. 5"})
  void promise2_fivePiecesAreTheMost() {
    due(x.map(0, 5), 1);
    ledTo(0, 0, 0, 0, 0, 0, 0);
  }

  @Promise(n = 2, says = {"A MAP has n PIECES", "n PIECES (1 .. 5"})
  void promise2_eachNumberOfPiecesBetween() {
    for (int n = 1; n <= 5; n++) {
      due(x.map(2, n), 1);
      due(x.cornerAt(2, n), 0);
      due(x.cornerAt(2, n + 1), -2);
    }
  }

  @Promise(n = 2, says = {"n PIECES (1 .. 5", "BAD."})
  void promise2_noPieceIsTooFew() {
    lead(0, TENT);
    bad(() -> x.map(0, 0));
    bad(() -> x.map(0, -1));
    bad(() -> x.map(0, LEAST));
    ledTo(0, TENT);
  }

  @Promise(n = 2, says = {"n PIECES (1 .. 5", "BAD."})
  void promise2_sixPiecesAreTooMany() {
    lead(0, TENT);
    bad(() -> x.map(0, 6));
    bad(() -> x.map(0, GREATEST));
    ledTo(0, TENT);
  }

  @Promise(n = 2, says = {"A MAP has n PIECES", "MAPS 0 .."})
  void promise2_theFirstAndTheLastMap() {
    due(x.map(0, 2), 1);
    due(x.map(7, 3), 1);
    ledTo(0, 0, 0, 0);
    ledTo(7, 0, 0, 0, 0);
    for (int m = 1; m < 7; m++) {
      ledTo(m, 0, 0);
    }
  }

  @Promise(n = 2, says = {"MAPS 0 ..", "BAD."})
  void promise2_onlyMaps0To7() {
    onlyMaps0To7(m -> x.map(m, 2));
  }

  @Promise(n = 2, says = "all CORNERS led to 0: 1.")
  void promise2_asManyPiecesAsItHasLeadCornersTo0Too() {
    lead(4, 3, 2, 1, 3);
    due(x.map(4, 3), 1);
    ledTo(4, 0, 0, 0, 0);
  }

  @Promise(n = 2, says = "all CORNERS led to 0: 1.")
  void promise2_cornersThatWereCutOffComeBackLedTo0() {
    lead(4, 5, 4, 3, 2, 1, 5);
    due(x.map(4, 1), 1);
    ledTo(4, 0, 0);
    due(x.map(4, 5), 1);
    ledTo(4, 0, 0, 0, 0, 0, 0);
  }

  // ---- promise 3: corner

  @Promise(n = 3, says = "A CORNER is led to v: where it was led.")
  void promise3_answersWhereItWasLedBefore() {
    x.map(3, 4);
    due(x.corner(3, 2, 4), 0);
    due(x.corner(3, 2, 1), 4);
    due(x.corner(3, 2, 1), 1);
    due(x.corner(3, 2, 0), 1);
    ledTo(3, 0, 0, 0, 0, 0);
  }

  @Promise(n = 3, says = {"A CORNER is led to v", "CORNERS 0 .. n are led to whole numbers 0 .. n"})
  void promise3_theFirstAndTheLastCornerOfEachNumberOfPieces() {
    for (int n = 1; n <= 5; n++) {
      x.map(6, n);
      due(x.corner(6, 0, 1), 0);
      due(x.corner(6, n, 1), 0);
      due(x.cornerAt(6, 0), 1);
      due(x.cornerAt(6, n), 1);
    }
  }

  @Promise(n = 3, says = {"CORNERS 0 .. n are led to whole numbers 0 .. n", "BAD."})
  void promise3_noCornerBelow0() {
    x.map(0, 5);
    bad(() -> x.corner(0, -1, 0));
    bad(() -> x.corner(0, LEAST, 0));
  }

  @Promise(n = 3, says = {"CORNERS 0 .. n are led to whole numbers 0 .. n", "BAD."})
  void promise3_noCornerBeyondN() {
    for (int n = 1; n <= 5; n++) {
      int beyond = n + 1;
      x.map(0, n);
      bad(() -> x.corner(0, beyond, 0));
    }
    bad(() -> x.corner(0, GREATEST, 0));
  }

  @Promise(n = 3, says = {"A CORNER is led to v", "CORNERS 0 .. n are led to whole numbers 0 .. n"})
  void promise3_ledTo0AndToN() {
    for (int n = 1; n <= 5; n++) {
      x.map(0, n);
      due(x.corner(0, 1, n), 0);
      due(x.cornerAt(0, 1), n);
      due(x.corner(0, 1, 0), n);
      due(x.cornerAt(0, 1), 0);
    }
  }

  @Promise(n = 3, says = {"CORNERS 0 .. n are led to whole numbers 0 .. n", "BAD."})
  void promise3_notLedBelow0() {
    lead(0, TENT);
    bad(() -> x.corner(0, 1, -1));
    bad(() -> x.corner(0, 1, LEAST));
    ledTo(0, TENT);
  }

  @Promise(n = 3, says = {"CORNERS 0 .. n are led to whole numbers 0 .. n", "BAD."})
  void promise3_notLedBeyondN() {
    for (int n = 1; n <= 5; n++) {
      int beyond = n + 1;
      x.map(0, n);
      bad(() -> x.corner(0, 1, beyond));
    }
    bad(() -> x.corner(0, 1, GREATEST));
  }

  @Promise(n = 3, says = {"CORNERS 0 .. n are led to whole numbers 0 .. n", "BAD."})
  void promise3_theBoundsAreThoseOfTheMapThatIsMeant() {
    x.map(0, 5);
    x.map(1, 2);
    due(x.corner(0, 5, 5), 0);
    bad(() -> x.corner(1, 3, 0));
    bad(() -> x.corner(1, 0, 3));
    x.map(0, 2);
    bad(() -> x.corner(0, 5, 0));
    bad(() -> x.corner(0, 0, 5));
  }

  @Promise(n = 3, says = {"MAPS 0 ..", "BAD."})
  void promise3_onlyMaps0To7() {
    onlyMaps0To7(m -> x.corner(m, 0, 0));
    due(x.corner(7, 1, 1), 0);
  }

  // ---- promise 4: cornerAt

  @Promise(n = 4, says = {"Where a CORNER is led.", "CORNERS 0 .. n"})
  void promise4_theFirstAndTheLastCorner() {
    lead(7, 4, 0, 3, 1, 2);
    due(x.cornerAt(7, 0), 4);
    due(x.cornerAt(7, 4), 2);
  }

  @Promise(n = 4, says = "Where a CORNER is led.")
  void promise4_eachCornerAndNothingIsChanged() {
    lead(3, 4, 0, 3, 1, 2);
    long before = x.digest();
    rows("cornerAt", i -> x.cornerAt(3, i), 0, 4, 0, 3, 1, 2);
    due(x.digest(), before);
  }

  @Promise(n = 4, says = {"CORNERS 0 .. n", "BAD."})
  void promise4_noCornerBelow0() {
    bad(() -> x.cornerAt(0, -1));
    bad(() -> x.cornerAt(0, LEAST));
  }

  @Promise(n = 4, says = {"CORNERS 0 .. n", "BAD."})
  void promise4_noCornerBeyondN() {
    for (int n = 1; n <= 5; n++) {
      int beyond = n + 1;
      x.map(0, n);
      due(x.cornerAt(0, n), 0);
      bad(() -> x.cornerAt(0, beyond));
    }
    bad(() -> x.cornerAt(0, GREATEST));
  }

  @Promise(n = 4, says = {"MAPS 0 ..", "BAD."})
  void promise4_onlyMaps0To7() {
    onlyMaps0To7(m -> x.cornerAt(m, 0));
  }

  // ---- promise 5: copy

  @Promise(n = 5, says = "A MAP becomes what another one is: its PIECES.")
  void promise5_theFirstBecomesTheLastAndTheLastTheFirst() {
    lead(0, 2, 0, 1);
    due(x.copy(0, 7), 2);
    ledTo(7, 2, 0, 1);
    ledTo(0, 2, 0, 1);
    lead(7, 3, 3, 1, 0);
    due(x.copy(7, 0), 3);
    ledTo(0, 3, 3, 1, 0);
  }

  @Promise(n = 5, says = "A MAP becomes what another one is: its PIECES.")
  void promise5_aLargeOneOverASmallOne() {
    lead(2, 5, 4, 3, 2, 1, 5);
    due(x.copy(2, 3), 5);
    ledTo(3, 5, 4, 3, 2, 1, 5);
  }

  @Promise(n = 5, says = "A MAP becomes what another one is: its PIECES.")
  void promise5_aSmallOneOverALargeOne() {
    lead(2, 5, 4, 3, 2, 1, 5);
    lead(3, 1, 0);
    due(x.copy(3, 2), 1);
    ledTo(2, 1, 0);
  }

  @Promise(n = 5, says = "A MAP becomes what another one is: its PIECES.")
  void promise5_ontoItself() {
    lead(2, 5, 4, 3, 2, 1, 5);
    long before = x.digest();
    due(x.copy(2, 2), 5);
    due(x.digest(), before);
  }

  @Promise(n = 5, says = "A MAP becomes what another one is: its PIECES.")
  void promise5_theTwoStandByThemselvesAfterwards() {
    lead(0, TENT);
    due(x.copy(0, 1), 2);
    due(x.corner(0, 1, 1), 2);
    ledTo(1, TENT);
    due(x.corner(1, 2, 2), 0);
    ledTo(0, 0, 1, 0);
  }

  @Promise(n = 5, says = {"MAPS 0 ..", "BAD."})
  void promise5_onlyMaps0To7ToCopyFrom() {
    lead(0, TENT);
    onlyMaps0To7(m -> x.copy(m, 0));
  }

  @Promise(n = 5, says = {"MAPS 0 ..", "BAD."})
  void promise5_onlyMaps0To7ToCopyTo() {
    lead(0, TENT);
    onlyMaps0To7(m -> x.copy(0, m));
    onlyMaps0To7(m -> x.copy(m, m));
  }

  // ---- promise 6: turn

  @Promise(n = 6, says = {"MAP to becomes MAP m TURNED about",
      "CORNER i of the other MAP is led to n less what CORNER n - i is led to."})
  void promise6_cornersFromTheOtherEndAndLedToTheOtherEnd() {
    lead(0, 0, 3, 1, 1);
    due(x.turn(0, 7), 3);
    ledTo(7, 2, 2, 0, 3);
    ledTo(0, 0, 3, 1, 1);
  }

  @Promise(n = 6, says = "(perhaps itself): its PIECES.")
  void promise6_itselfWithAnEvenNumberOfCorners() {
    lead(0, 0, 3, 1, 1);
    due(x.turn(0, 0), 3);
    ledTo(0, 2, 2, 0, 3);
    lead(1, 0, 5, 1, 4, 2, 2);
    due(x.turn(1, 1), 5);
    ledTo(1, 3, 3, 1, 4, 0, 5);
    lead(2, 0, 1);
    due(x.turn(2, 2), 1);
    ledTo(2, 0, 1);
  }

  @Promise(n = 6, says = "(perhaps itself): its PIECES.")
  void promise6_itselfWithAnOddNumberOfCornersTurnsTheMiddleOne() {
    lead(2, 0, 1, 3, 2, 0);
    due(x.turn(2, 2), 4);
    ledTo(2, 4, 2, 1, 3, 4);
    lead(3, 0, 2, 1);
    due(x.turn(3, 3), 2);
    ledTo(3, 1, 0, 2);
  }

  @Promise(n = 6, says = "CORNER i of the other MAP is led to n less what CORNER n - i is led to.")
  void promise6_turnedTwiceItIsAsItWas() {
    lead(5, 1, 5, 0, 4, 4, 2);
    long before = x.digest();
    due(x.turn(5, 5), 5);
    ledTo(5, 3, 1, 1, 5, 0, 4);
    due(x.turn(5, 5), 5);
    due(x.digest(), before);
  }

  @Promise(n = 6, says = "n less what CORNER n - i is led to.")
  void promise6_oneFlatPieceLedTo0IsLedTo1() {
    due(x.turn(6, 6), 1);
    ledTo(6, 1, 1);
  }

  @Promise(n = 6, says = "MAP to becomes MAP m TURNED about (perhaps itself): its PIECES.")
  void promise6_overAMapOfMoreAndOfFewerPieces() {
    lead(3, 0, 1, 3, 2, 0);
    due(x.turn(7, 3), 1);
    ledTo(3, 1, 1);
    lead(4, 0, 1, 2, 3, 4, 0);
    due(x.turn(4, 3), 5);
    ledTo(3, 5, 1, 2, 3, 4, 5);
  }

  @Promise(n = 6, says = {"MAPS 0 ..", "BAD."})
  void promise6_onlyMaps0To7ToTurn() {
    lead(0, TENT);
    onlyMaps0To7(m -> x.turn(m, 0));
  }

  @Promise(n = 6, says = {"MAPS 0 ..", "BAD."})
  void promise6_onlyMaps0To7ToBecomeIt() {
    lead(0, TENT);
    onlyMaps0To7(m -> x.turn(0, m));
    onlyMaps0To7(m -> x.turn(m, m));
  }

  // ---- promise 7: slope

  @Promise(n = 7, says = {"SLOPE of a PIECE.", "what CORNER i + 1 is led to less what CORNER i is."})
  void promise7_theSteepestBothWaysAndFlatOnes() {
    lead(1, 0, 5, 5, 0, 1, 3);
    rows("slope", i -> x.slope(1, i), 0, 5, 0, -5, 1, 2);
  }

  @Promise(n = 7, says = {"SLOPE of a PIECE.", "BAD: -100."})
  void promise7_slopesAsLowAsTheOtherRefusalsAreAnswers() {
    lead(1, 1, 0);
    due(x.slope(1, 0), -1);
    lead(2, 2, 0, 0);
    due(x.slope(2, 0), -2);
    lead(3, 3, 0, 0, 0);
    due(x.slope(3, 0), -3);
  }

  @Promise(n = 7, says = {"SLOPE of a PIECE.", "SPAN i goes from i to i + 1."})
  void promise7_theFirstAndTheLastPieceOfEachNumber() {
    for (int n = 1; n <= 5; n++) {
      x.map(0, n);
      x.corner(0, 0, n);
      x.corner(0, n, n);
      due(x.slope(0, 0), n == 1 ? 0 : -n);
      due(x.slope(0, n - 1), n == 1 ? 0 : n);
    }
  }

  @Promise(n = 7, says = "BAD: -100.")
  void promise7_noPieceBelow0() {
    refused(() -> x.slope(0, -1), -100);
    refused(() -> x.slope(0, LEAST), -100);
  }

  @Promise(n = 7, says = "BAD: -100.")
  void promise7_noPieceFromNOn() {
    for (int n = 1; n <= 5; n++) {
      int beyond = n;
      x.map(0, n);
      refused(() -> x.slope(0, beyond), -100);
    }
    refused(() -> x.slope(0, GREATEST), -100);
  }

  @Promise(n = 7, says = {"BAD: -100.", "MAPS 0 .."})
  void promise7_onlyMaps0To7() {
    onlyMaps0To7(m -> x.slope(m, 0), -100);
  }
}
