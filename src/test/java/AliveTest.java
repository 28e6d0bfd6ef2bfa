/** Promise 13, and the term "alive after k lines". Above each test stands the sentence that it tests. */
public final class AliveTest {
  public static void main(String[] args) {
    tellsClausesAliveAfterTheCursor();
    refusesNegativeIds();
    refusesIdsNotInTheText();
    refusesDeletions();
    refusesLemmasAtTheCursorOrAbove();
    refusesDeletedClauses();
    ignoresDeletionsAtTheCursorOrAbove();
    ignoresMarks();
    Run.end();
  }

  /**
   * "answers true if id is a clause alive after cursor lines", which is "Every axiom, and every lemma on a line numbered
   * below k, except those that are the target of a deletion on a line numbered below k."
   */
  private static void tellsClausesAliveAfterTheCursor() {
    new Run("building", 3, 3, 3).living().add(0, "axiom 1").living(0).add(1, "lemma 2").living(0, 1)
        .add(2, "delete 0").living(1).add(3, "delete 1").living();
    Texts.withWaste("going back").living(1, 2, 3, 4, 8, 9).due("seal", 5).living(1, 2, 3, 4, 8)
        .due("back", TrimChecker.BY_RUP).living(1, 2, 3, 4)
        .due("back", TrimChecker.REVIVED).living(0, 1, 2, 3, 4)
        .due("back", TrimChecker.REVIVED).living(0, 1, 2, 3, 4, 5)
        .due("back", TrimChecker.SKIPPED).living(0, 1, 2, 3, 4)
        .due("back", TrimChecker.BY_RUP).living(0, 1, 2, 3);
    Texts.rejected("rejected").living(0, 1, 2);
    Texts.greatest("as many as there can be").living(0, 1, 2, 3, 20, 21, 22, 23)
        .same("alive 0", 1).same("alive 11", 0).same("alive 23", 1).same("alive 24", 0);
  }

  /** "false for any other id: negative" */
  private static void refusesNegativeIds() {
    // Each is 32 or 64 below a living id, or an extreme: a shift by it would hit a living one.
    for (Run run : Texts.inEveryPhase()) {
      for (int id : new int[] {-1, -2, -24, -28, -30, -31, -32, -63, -64, Integer.MIN_VALUE, Integer.MIN_VALUE + 1}) {
        run.same("alive " + id, 0);
      }
    }
  }

  /** "not in the text" */
  private static void refusesIdsNotInTheText() {
    for (Run run : Texts.inEveryPhase()) {
      for (int id : new int[] {10, 11, 12, 23, 24, 25, 31, 32, 33, 34, 36, 64, 65, 256, Integer.MAX_VALUE}) {
        run.same("alive " + id, 0);
      }
    }
    new Run("empty text", 1, 1, 1).same("alive 0", 0).same("alive -1", 0);
    Texts.withWaste("removed").due("rewind 4", 4).same("alive 8", 0).due("rewind -1", 0).same("alive 1", 0);
  }

  /** "a deletion's id" */
  private static void refusesDeletions() {
    Texts.withWaste("building").same("alive 6", 0).same("alive 7", 0);
    Texts.checking("checking").same("alive 6", 0).same("alive 7", 0).due("back", TrimChecker.BY_RUP)
        .due("back", TrimChecker.REVIVED).same("alive 7", 0).same("alive 6", 0);
    Texts.accepted("accepted").same("alive 6", 0).same("alive 7", 0);
    // Where a living lemma stood.
    Texts.square("instead of a lemma").due("lemma 1", 4).due("rewind 0", 0).due("delete 0", 4).same("alive 4", 0);
  }

  /** "a lemma on a line numbered cursor or above" */
  private static void refusesLemmasAtTheCursorOrAbove() {
    Texts.square("lines 0, 1 and 2").add(4, "lemma 1 3", "lemma 1", "lemma 0").same("alive 6", 1)
        .due("seal", 2).same("alive 4", 1).same("alive 5", 1).same("alive 6", 0)
        .due("back", TrimChecker.BY_RUP).same("alive 4", 1).same("alive 5", 0).same("alive 6", 0)
        .due("back", TrimChecker.SKIPPED).same("alive 4", 0).same("alive 5", 0).same("alive 6", 0);
    new Run("cursor 0", 1, 1, 1).add(0, "axiom 0", "lemma 1").same("alive 1", 1).due("seal", 0).same("alive 1", 0);
  }

  /** "or a clause that is the target of a deletion on a line numbered below the cursor" */
  private static void refusesDeletedClauses() {
    // Lines 2 and 3 delete lemma 5 and axiom 0; the cursor is 5, then 4.
    Texts.checking("deleted below").same("alive 0", 0).same("alive 5", 0)
        .due("back", TrimChecker.BY_RUP).same("alive 0", 0).same("alive 5", 0);
  }

  /** "A deletion on a line numbered cursor or above has no effect on the answer." */
  private static void ignoresDeletionsAtTheCursorOrAbove() {
    Texts.checking("at the cursor").due("back", TrimChecker.BY_RUP).due("back", TrimChecker.REVIVED)
        .due("cursor", 3).same("alive 0", 1).same("alive 5", 0)
        .due("back", TrimChecker.REVIVED).due("cursor", 2).same("alive 0", 1).same("alive 5", 1);
    Texts.square("behind the conflict").add(4, "lemma 1", "delete 0", "delete 4").living(1, 2, 3)
        .due("seal", 1).living(0, 1, 2, 3, 4);
    new Run("cursor 0", 1, 2, 2).add(0, "axiom 0", "axiom 1", "delete 0", "delete 1").living().due("seal", 0)
        .living(0, 1);
  }

  /** "is a clause alive after cursor lines": a mark makes no difference. */
  private static void ignoresMarks() {
    Texts.checking("marked or not").same("alive 1", 1).same("marked 1", 0).same("alive 2", 1).same("marked 2", 1);
    Texts.accepted("marked, no longer alive").same("alive 8", 0).same("marked 8", 1);
  }
}
