/** Promise 9. Above each test stands the sentence that it tests. */
public final class RewindTest {
  public static void main(String[] args) {
    worksInEveryPhase();
    removesLines();
    removesEverything();
    removesAllLines();
    removesNothing();
    clearsMarks();
    forgetsTheConflictPoint();
    answersTheLinesLeft();
    leavesIdsAndWords();
    revivesWhatIsNoLongerDeleted();
    takesAxiomsAgain();
    leavesTheLimits();
    forgetsWhatItRemoved();
    Run.end();
  }

  /** "goes back to BUILDING, in any phase (BUILDING included)" */
  private static void worksInEveryPhase() {
    for (int lines : new int[] {Integer.MIN_VALUE, -1, 0, 1, 2, 3, 99, Integer.MAX_VALUE}) {
      Run[] runs = Texts.inEveryPhase();
      int[] lineCounts = {6, 6, 6, 3};
      for (int i = 0; i < runs.length; i++) {
        int left = linesLeft(lines, lineCounts[i]);
        runs[i].due("rewind " + lines, left).state(TrimChecker.BUILDING, left, TrimChecker.NONE).marks()
            .same("rewind " + lines, left);
      }
    }
    new Run("accepted without a line", 1, 1, 1).add(0, "axiom 0").due("seal", 0).due("rewind 0", 0)
        .state(TrimChecker.BUILDING, 0, TrimChecker.NONE).marks().living(0);
    Texts.checking("going back").due("back", TrimChecker.BY_RUP).due("rewind 4", 4)
        .state(TrimChecker.BUILDING, 4, TrimChecker.NONE).marks().living(1, 2, 3, 4);
  }

  private static int linesLeft(int lines, int before) {
    return Math.max(0, Math.min(lines, before));
  }

  /** "It removes every line numbered lines or above" */
  private static void removesLines() {
    for (int lines = 1; lines < 12; lines++) {
      Run run = Texts.greatest("to " + lines).due("rewind " + lines, lines);
      for (int id = 0; id < 12 + lines; id++) {
        run.due("kind " + id, id < 12 ? TrimChecker.AXIOM : id < 20 ? TrimChecker.DELETION : TrimChecker.LEMMA);
      }
      for (int id = 12 + lines; id < 24; id++) {
        run.due("kind " + id, TrimChecker.NOTHING).words(id, 0, 0, 0, 0);
      }
      run.due("lemma 1 8", 12 + lines);
    }
  }

  /** "if lines is negative, it removes all lines and all axioms" */
  private static void removesEverything() {
    for (int lines : new int[] {-1, -2, -12, -32, Integer.MIN_VALUE + 1, Integer.MIN_VALUE}) {
      Texts.accepted("everything " + lines).due("rewind " + lines, 0)
          .state(TrimChecker.BUILDING, 0, TrimChecker.NONE).marks().living()
          .due("kind 0", TrimChecker.NOTHING).words(0, 0, 0, 0, 0).same("seal", TrimChecker.NO_CONFLICT)
          .due("holds 0 0", 1).due("delete 0", TrimChecker.BAD)
          .due("axiom 2", 0).due("kind 1", TrimChecker.NOTHING).due("axiom -2", 1).due("seal", 0).marks(0, 1);
    }
    new Run("empty text", 1, 1, 1).same("rewind -1", 0).due("axiom 1", 0);
    new Run("axioms alone", 1, 1, 1).due("axiom 1", 0).due("rewind -1", 0).due("kind 0", TrimChecker.NOTHING)
        .due("axiom 1", 0);
    new Run("lines alone", 1, 1, 1).due("lemma 1", 0).due("rewind -1", 0).due("kind 0", TrimChecker.NOTHING)
        .due("axiom 1", 0);
  }

  /** "So 0 removes all lines and leaves the axioms" */
  private static void removesAllLines() {
    for (Run run : new Run[] {
      Texts.withRat("building"), Texts.withRat("checking").due("seal", 3),
      Texts.withRat("going back").due("seal", 3).due("back", TrimChecker.BY_RUP)
    }) {
      run.due("rewind 0", 0).state(TrimChecker.BUILDING, 0, TrimChecker.NONE).living(0, 1, 2, 3, 4).marks()
          .words(4, -3, 4, 0, 0).due("kind 4", TrimChecker.AXIOM).due("kind 5", TrimChecker.NOTHING);
    }
    new Run("no line", 1, 1, 1).due("axiom 1", 0).same("rewind 0", 0).living(0);
  }

  /** "and a value equal to or greater than the number of lines removes no line" */
  private static void removesNothing() {
    Texts.withWaste("building").same("rewind 6", 6).same("rewind 7", 6).same("rewind 12", 6).same("rewind 13", 6)
        .same("rewind 256", 6).same("rewind " + Integer.MAX_VALUE, 6).due("lemma 1", 10);
    Texts.greatest("twelve lines").same("rewind 12", 12).same("rewind 13", 12).same("rewind " + Integer.MAX_VALUE, 12);
    Texts.checking("sealed, the point is 5").due("rewind 6", 6).living(1, 2, 3, 4, 8, 9).due("lemma 1", 10);
    Texts.accepted("accepted, the cursor is 0").due("rewind 7", 6).living(1, 2, 3, 4, 8, 9).due("lemma 1", 10);
    new Run("no line", 1, 1, 1).same("rewind 0", 0).same("rewind 1", 0).same("rewind 5", 0);
    // One less than the number of lines does remove one.
    Texts.withWaste("one less").due("rewind 5", 5).living(1, 2, 3, 4, 8);
  }

  /** "In every case all marks are cleared" */
  private static void clearsMarks() {
    for (int lines : new int[] {99, 6, 5, 0, -1}) {
      String call = "rewind " + lines;
      int left = linesLeft(lines, 6);
      Texts.accepted(call).marks(0, 1, 2, 3, 4, 8).due(call, left).marks().due("holds 2 0", 1);
      Texts.checking(call).marks(2, 3, 8).due(call, left).marks();
    }
    Texts.accepted("made anew").due("rewind 99", 6).due("seal", 5).marks(2, 3, 8);
  }

  /** "the conflict point becomes NONE" */
  private static void forgetsTheConflictPoint() {
    Texts.accepted("no line removed").due("conflict", 5).due("rewind 6", 6).due("conflict", TrimChecker.NONE);
    Texts.rejected("some removed").due("conflict", 2).due("rewind 1", 1).due("conflict", TrimChecker.NONE);
    new Run("point 0", 1, 1, 1).add(0, "axiom 0").due("seal", 0).due("conflict", 0).due("rewind 0", 0)
        .due("conflict", TrimChecker.NONE).due("rewind -1", 0).due("conflict", TrimChecker.NONE);
  }

  /** "and the cursor becomes the number of lines left, which is answered" */
  private static void answersTheLinesLeft() {
    Texts.withWaste("down").due("rewind 5", 5).due("cursor", 5).due("rewind 3", 3).due("cursor", 3)
        .due("rewind 4", 3).due("cursor", 3).due("rewind 0", 0).due("cursor", 0).due("rewind 3", 0).due("cursor", 0);
    Texts.accepted("up from 0").due("cursor", 0).due("rewind 3", 3).due("cursor", 3).living(0, 1, 2, 3, 4);
  }

  /** "What is left of the text keeps its ids and words." */
  private static void leavesIdsAndWords() {
    new Run("words", 4, 3, 6)
        .add(0, "axiom 0 -4 0 2", "axiom 3 3 -3 1", "lemma -1 0 0 4", "delete 1", "lemma 0", "lemma 2 3 4 1")
        .due("seal", 3).due("rewind 2", 2)
        .words(0, 0, -4, 0, 2).words(1, 3, 3, -3, 1).words(2, -1, 0, 0, 4).words(3, 1, 0, 0, 0)
        .due("kind 1", TrimChecker.AXIOM).due("kind 2", TrimChecker.LEMMA).due("kind 3", TrimChecker.DELETION)
        .due("rewind 0", 0).words(0, 0, -4, 0, 2).words(1, 3, 3, -3, 1).words(2, 0, 0, 0, 0);
  }

  /** "A clause whose deletion was removed, and which itself is left, is no longer deleted." */
  private static void revivesWhatIsNoLongerDeleted() {
    Texts.withWaste("an axiom").living(1, 2, 3, 4, 8, 9).due("rewind 3", 3).living(0, 1, 2, 3, 4).due("delete 0", 7);
    Texts.withWaste("a lemma").due("rewind 2", 2).living(0, 1, 2, 3, 4, 5).due("delete 5", 6).living(0, 1, 2, 3, 4);
    Texts.withWaste("its deletion is left").due("rewind 4", 4).living(1, 2, 3, 4).same("delete 0", TrimChecker.BAD);
    Texts.greatest("eight axioms").living(0, 1, 2, 3, 20, 21, 22, 23).due("rewind 0", 0)
        .living(0, 1, 2, 3, 4, 5, 6, 7, 8, 9, 10, 11);
    // The lemma 5 went with its deletion: what comes under its id is another clause, and alive.
    Texts.withWaste("which itself is left").due("rewind 1", 1).living(0, 1, 2, 3, 4).same("delete 5", TrimChecker.BAD)
        .due("lemma 6", 5).living(0, 1, 2, 3, 4, 5).due("delete 5", 6);
  }

  /** "If no line is left, axioms may be added again, as Promise 2 says." */
  private static void takesAxiomsAgain() {
    Texts.withRat("after 0").due("axiom 1", TrimChecker.WRONG_PHASE).due("rewind 0", 0)
        .due("axiom -3", 5).due("kind 5", TrimChecker.AXIOM).living(0, 1, 2, 3, 4, 5).words(5, -3, 0, 0, 0);
    Texts.withRat("one line left").due("rewind 1", 1).same("axiom 1", TrimChecker.WRONG_PHASE);
    Texts.accepted("after 0, accepted").due("rewind 0", 0).due("axiom 1", 4).due("seal", 0);
    new Run("after 5, no line", 1, 2, 1).add(0, "axiom 0").due("seal", 0).due("axiom 1", TrimChecker.WRONG_PHASE)
        .due("rewind 5", 0).due("axiom 1", 1);
    Texts.accepted("after -1").due("rewind -1", 0).due("axiom 1", 0).due("axiom 9", TrimChecker.BAD);
  }

  /** "The limits set by the constructor do not change." */
  private static void leavesTheLimits() {
    new Run("limits", 1, 1, 1).add(0, "axiom 1", "lemma 1").due("rewind -1", 0)
        .due("axiom 2", TrimChecker.BAD).due("axiom 1", 0).due("axiom 1", TrimChecker.FULL)
        .due("lemma 2", TrimChecker.BAD).due("lemma 1", 1).due("lemma 1", TrimChecker.FULL).due("rewind 0", 0)
        .due("axiom 1", TrimChecker.FULL).due("lemma 1", 1).due("lemma 1", TrimChecker.FULL);
    Texts.greatest("greatest").due("rewind 99", 12).due("lemma 1", TrimChecker.FULL).due("rewind 11", 11)
        .due("lemma 1", 23).due("lemma 1", TrimChecker.FULL).due("rewind 0", 0).due("axiom 1", TrimChecker.FULL);
  }

  /** "It removes": the words of a removed line do not show under a new one. */
  private static void forgetsWhatItRemoved() {
    Texts.withWaste("a lemma after a deletion").due("rewind 2", 2).due("lemma 3", 6).words(6, 3, 0, 0, 0)
        .due("kind 6", TrimChecker.LEMMA).due("alive 6", 1).living(0, 1, 2, 3, 4, 5, 6);
    Texts.square("a deletion after a lemma").due("lemma 1 2 3 4", 4).due("rewind 0", 0).due("delete 0", 4)
        .words(4, 0, 0, 0, 0).due("alive 4", 0).due("seal", TrimChecker.NO_CONFLICT);
    Texts.square("a clause after a longer one").due("lemma 1 2 3 4", 4).due("rewind 0", 0).due("axiom 5", 4)
        .words(4, 5, 0, 0, 0).due("lemma -5", 5).due("seal", 1).marks(4, 5);
    Texts.accepted("an axiom after a marked lemma").due("rewind 0", 0).due("axiom 7", 4).due("marked 4", 0)
        .due("lemma 1", 5).due("seal", 1).marks(2, 3, 5);
  }
}
