/** Promise 5. Above each test stands the sentence that it tests. */
public final class SealTest {
  public static void main(String[] args) {
    refusesOtherPhases();
    findsTheConflictBeforeAnyLine();
    findsTheConflictAfterTheLastLine();
    findsTheLeastPoint();
    looksAtLivingClausesOnly();
    findsNoConflict();
    goesOnAfterNoConflict();
    keepsForTheEmptySet();
    movesTheCursorToThePoint();
    acceptsAtOnceIfThePointIsZero();
    leavesTheTextWhole();
    Run.end();
  }

  /** "If the phase is not BUILDING: WRONG_PHASE. ... These change nothing" */
  private static void refusesOtherPhases() {
    for (Run run : Texts.sealed()) {
      run.same("seal", TrimChecker.WRONG_PHASE);
    }
    for (Run run : Texts.sealedAndFull()) {
      run.same("seal", TrimChecker.WRONG_PHASE);
    }
  }

  /** "the least number in 0..(number of lines), both ends included": the lower end */
  private static void findsTheConflictBeforeAnyLine() {
    new Run("no line", 1, 3, 3).add(0, "axiom 1", "axiom -1").due("seal", 0).state(TrimChecker.ACCEPTED, 0, 0)
        .marks(0, 1);
    new Run("an empty axiom", 1, 3, 3).add(0, "axiom 0").due("seal", 0).state(TrimChecker.ACCEPTED, 0, 0).marks(0);
    new Run("lines behind", 1, 3, 3).add(0, "axiom 1", "axiom -1", "lemma 0", "delete 0", "lemma 1")
        .due("seal", 0).state(TrimChecker.ACCEPTED, 0, 0).marks(0, 1);
  }

  /** "the least number in 0..(number of lines), both ends included": the upper end */
  private static void findsTheConflictAfterTheLastLine() {
    new Run("one line", 1, 1, 1).due("lemma 0", 0).due("seal", 1).state(TrimChecker.CHECKING, 1, 1).marks(0);
    Texts.square("two lines").add(4, "lemma 3", "lemma 1").due("seal", 2)
        .state(TrimChecker.CHECKING, 2, 2).marks(2, 3, 5).living(0, 1, 2, 3, 4, 5);
    Texts.greatest("twelve lines").due("seal", 12).state(TrimChecker.CHECKING, 12, 12).marks(2, 3, 20, 21, 22, 23);
  }

  /** "let c be the least number" */
  private static void findsTheLeastPoint() {
    Texts.square("the first of several").add(4, "lemma 1", "lemma 0", "lemma -1").due("seal", 1)
        .state(TrimChecker.CHECKING, 1, 1).marks(2, 3, 4);
    Texts.square("deleted again later").add(4, "lemma 1", "delete 4", "delete 2", "lemma 5").due("seal", 1)
        .state(TrimChecker.CHECKING, 1, 1).marks(2, 3, 4);
    for (int point = 1; point <= 12; point++) {
      Run run = Texts.square("point " + point);
      for (int line = 0; line < 12; line++) {
        run.due(line == point - 1 ? "lemma 1" : "lemma 5", 4 + line);
      }
      run.due("seal", point).state(TrimChecker.CHECKING, point, point).marks(2, 3, point + 3);
    }
  }

  /** "such that the clauses alive after c lines refute the empty set of literals" */
  private static void looksAtLivingClausesOnly() {
    Texts.square("a deletion puts it off").add(4, "lemma 4", "delete 3", "lemma 1", "lemma -1 -2").due("seal", 4)
        .state(TrimChecker.CHECKING, 4, 4).marks(2, 6, 7).living(0, 1, 2, 4, 6, 7);
    Texts.square("a deletion prevents it").add(4, "delete 2", "lemma 1").due("seal", TrimChecker.NO_CONFLICT);
    new Run("a deleted lemma", 1, 1, 3).add(0, "lemma 1", "delete 0", "lemma -1").due("seal", TrimChecker.NO_CONFLICT);
  }

  /** "If there is no such c: NO_CONFLICT." */
  private static void findsNoConflict() {
    new Run("empty text", 3, 3, 3).same("seal", TrimChecker.NO_CONFLICT);
    new Run("only lines", 3, 3, 3).add(0, "lemma 1", "lemma 2", "delete 0").same("seal", TrimChecker.NO_CONFLICT);
    Texts.square("unsatisfiable, but no unit clause").same("seal", TrimChecker.NO_CONFLICT);
    Run run = Texts.square("twelve lines");
    for (int line = 0; line < 12; line++) {
      run.due("lemma 1 2", 4 + line);
    }
    run.same("seal", TrimChecker.NO_CONFLICT);
  }

  /** "in particular after NO_CONFLICT the phase is still BUILDING" */
  private static void goesOnAfterNoConflict() {
    Texts.square("axioms and lines may follow").same("seal", TrimChecker.NO_CONFLICT)
        .state(TrimChecker.BUILDING, 0, TrimChecker.NONE).marks().due("axiom 7", 4)
        .same("seal", TrimChecker.NO_CONFLICT).due("lemma 5", 5)
        .same("seal", TrimChecker.NO_CONFLICT).state(TrimChecker.BUILDING, 1, TrimChecker.NONE).due("delete 5", 6)
        .same("seal", TrimChecker.NO_CONFLICT).due("lemma 1", 7).due("seal", 3).state(TrimChecker.CHECKING, 3, 3);
  }

  /** "keeping is done for the clauses alive after c lines and the one obligation which is the empty set" */
  private static void keepsForTheEmptySet() {
    Texts.square("not for the lemma's set").add(4, "lemma 3 1", "lemma -3").due("seal", 2).marks(2, 3, 4, 5);
    new Run("not for deleted clauses", 2, 3, 3).add(0, "axiom -1 2", "axiom -1 2", "axiom -1 -2", "delete 0", "lemma 1")
        .due("seal", 2).marks(1, 2, 4);
    new Run("not for later lines", 2, 3, 3).add(0, "axiom -1", "lemma 1", "lemma 0").due("seal", 1).marks(0, 1);
  }

  /** "the conflict point and the cursor become c ... and c is answered" */
  private static void movesTheCursorToThePoint() {
    Texts.withWaste("one line behind").due("cursor", 6)
        .changesOnly("seal", 5, "phase", "cursor", "conflict", "alive 9", "marked", "holds 2")
        .state(TrimChecker.CHECKING, 5, 5).living(1, 2, 3, 4, 8);
    Texts.withRat("no line behind").due("cursor", 3).changesOnly("seal", 3, "phase", "conflict", "marked", "holds 2")
        .state(TrimChecker.CHECKING, 3, 3).living(0, 1, 2, 3, 6, 7);
  }

  /** "the phase becomes ACCEPTED if c is 0, else CHECKING" */
  private static void acceptsAtOnceIfThePointIsZero() {
    new Run("0", 1, 3, 3).add(0, "axiom 0").due("seal", 0).due("phase", TrimChecker.ACCEPTED)
        .due("back", TrimChecker.WRONG_PHASE).due("trimmed 0", TrimChecker.BAD).due("forward 1", 0).due("forward 2", 0);
    new Run("1", 1, 3, 3).add(0, "lemma 0").due("seal", 1).due("phase", TrimChecker.CHECKING)
        .due("trimmed 0", TrimChecker.WRONG_PHASE).due("forward 1", TrimChecker.WRONG_PHASE);
    Texts.greatest("12").due("seal", 12).due("phase", TrimChecker.CHECKING);
  }

  /** "The text stays whole: lines numbered c or above remain in it." */
  private static void leavesTheTextWhole() {
    Texts.square("after point 1").add(4, "lemma 1", "delete 4", "lemma 0", "lemma -1 7").due("seal", 1)
        .due("kind 5", TrimChecker.DELETION).words(5, 4, 0, 0, 0).due("kind 6", TrimChecker.LEMMA)
        .due("kind 7", TrimChecker.LEMMA).words(7, -1, 7, 0, 0)
        .due("rewind 99", 4).living(0, 1, 2, 3, 6, 7).due("lemma 1", 8);
    new Run("after point 0", 1, 1, 2).add(0, "axiom 0", "lemma -1", "delete 0").due("seal", 0)
        .due("kind 1", TrimChecker.LEMMA).words(1, -1, 0, 0, 0).due("kind 2", TrimChecker.DELETION)
        .due("rewind 2", 2).living(1).due("lemma 1", TrimChecker.FULL);
  }
}
