/** Promise 4. Above each test stands the sentence that it tests. */
public final class DeleteTest {
  public static void main(String[] args) {
    refusesOtherPhases();
    refusesNegativeIds();
    refusesIdsNotInTheText();
    refusesDeletions();
    refusesDeletedClauses();
    refusesWhenFull();
    putsThePhaseFirst();
    putsBadBeforeFull();
    goesOnAfterRefusals();
    answersItsOwnId();
    takesAxiomsAndLemmas();
    leavesTheTarget();
    movesTheCursor();
    changesNothingElse();
    Run.end();
  }

  /** An axiom, a lemma, the deletions of both, and an axiom and a lemma still alive: the ids are 0 to 5. */
  private static Run text(String name) {
    return new Run(name, 2, 3, 6).add(0, "axiom 1", "axiom 2", "lemma 1 2", "delete 0", "delete 2", "lemma 1");
  }

  /** "The phase is not BUILDING: WRONG_PHASE." */
  private static void refusesOtherPhases() {
    for (Run run : Texts.sealed()) {
      run.same("delete 0", TrimChecker.WRONG_PHASE).same("delete 1", TrimChecker.WRONG_PHASE);
    }
  }

  /** "it is negative" */
  private static void refusesNegativeIds() {
    // 32 below a living id: a shift by it would hit that id.
    for (int id : new int[] {-1, -2, -5, -24, -27, -30, -31, -32, -64, Integer.MIN_VALUE, Integer.MIN_VALUE + 1}) {
      text("negative").same("delete " + id, TrimChecker.BAD);
    }
  }

  /** "or not in the text" */
  private static void refusesIdsNotInTheText() {
    // 6 is the id that the deletion itself would get; 33 and 37 are 32 above living ids.
    for (int id : new int[] {6, 7, 8, 12, 23, 24, 25, 31, 32, 33, 37, 64, 257, Integer.MAX_VALUE,
        Integer.MAX_VALUE - 1}) {
      text("not in the text").same("delete " + id, TrimChecker.BAD);
    }
    new Run("empty text", 2, 3, 6).same("delete 0", TrimChecker.BAD).same("delete -1", TrimChecker.BAD);
    text("removed").due("rewind 0", 0).same("delete 2", TrimChecker.BAD).due("rewind -1", 0)
        .same("delete 1", TrimChecker.BAD);
    text("beyond a full text").due("lemma 2", 6).due("lemma 2", 7).same("delete 8", TrimChecker.BAD);
  }

  /** "or the id of a deletion" */
  private static void refusesDeletions() {
    text("deletions").same("delete 3", TrimChecker.BAD).same("delete 4", TrimChecker.BAD);
  }

  /** "or a clause already deleted" */
  private static void refusesDeletedClauses() {
    text("deleted").same("delete 0", TrimChecker.BAD).same("delete 2", TrimChecker.BAD)
        .due("delete 5", 6).same("delete 5", TrimChecker.BAD).due("delete 1", 7).same("delete 1", TrimChecker.BAD)
        .living();
  }

  /** "There are already as many lines as allowed: FULL." */
  private static void refusesWhenFull() {
    text("full").due("lemma 2", 6).due("delete 6", 7).same("delete 1", TrimChecker.FULL)
        .same("delete 5", TrimChecker.FULL);
    new Run("full of lemmas", 1, 1, 1).add(0, "axiom 1", "lemma 1")
        .same("delete 0", TrimChecker.FULL).same("delete 1", TrimChecker.FULL);
    Texts.greatest("twelve lines").same("delete 0", TrimChecker.FULL).same("delete 23", TrimChecker.FULL);
  }

  /** "decides in this order": WRONG_PHASE comes before BAD and before FULL. */
  private static void putsThePhaseFirst() {
    for (Run run : Texts.sealedAndFull()) {
      run.same("delete 0", TrimChecker.WRONG_PHASE).same("delete 9", TrimChecker.WRONG_PHASE);
    }
    for (Run run : Texts.sealed()) {
      run.same("delete -1", TrimChecker.WRONG_PHASE).same("delete " + Integer.MAX_VALUE, TrimChecker.WRONG_PHASE);
    }
  }

  /** "decides in this order": BAD comes before FULL. */
  private static void putsBadBeforeFull() {
    Run run = text("full").due("lemma 2", 6).due("delete 6", 7);
    for (int id : new int[] {-1, Integer.MIN_VALUE, 8, 24, Integer.MAX_VALUE, 3, 7, 0, 2, 6}) {
      run.same("delete " + id, TrimChecker.BAD);
    }
  }

  /** "These change nothing." */
  private static void goesOnAfterRefusals() {
    new Run("between", 2, 2, 2).due("axiom 1", 0).same("delete 1", TrimChecker.BAD).due("axiom 2", 1)
        .due("delete 1", 2).same("delete 1", TrimChecker.BAD).due("lemma 1", 3).same("delete 0", TrimChecker.FULL)
        .living(0, 3).due("kind 4", TrimChecker.NOTHING);
  }

  /** "the line's own id is answered (not the target's)" */
  private static void answersItsOwnId() {
    new Run("own ids", 2, 3, 6).add(0, "axiom 1", "axiom 2", "axiom 1 2")
        .due("delete 2", 3).due("delete 0", 4).due("lemma 1", 5).due("delete 5", 6).due("delete 1", 7);
    new Run("no axioms", 2, 3, 6).due("lemma 1", 0).due("delete 0", 1);
  }

  /** "The target may be an axiom or a lemma" */
  private static void takesAxiomsAndLemmas() {
    Run run = new Run("all axioms", 1, 12, 12);
    for (int id = 0; id < 12; id++) {
      run.due("axiom 1", id);
    }
    for (int id = 11; id >= 0; id--) {
      run.due("alive " + id, 1).due("delete " + id, 23 - id).due("alive " + id, 0).words(23 - id, id, 0, 0, 0);
    }
    run.living();
    Run lemmas = new Run("all lemmas", 1, 12, 12);
    for (int id = 0; id < 12; id += 2) {
      lemmas.due("lemma 1", id).due("alive " + id, 1).due("delete " + id, id + 1).living();
    }
  }

  /** "and it stays in the text" */
  private static void leavesTheTarget() {
    text("stays").due("kind 0", TrimChecker.AXIOM).words(0, 1, 0, 0, 0).due("kind 2", TrimChecker.LEMMA)
        .words(2, 1, 2, 0, 0)
        .due("kind 3", TrimChecker.DELETION).words(3, 0, 0, 0, 0).due("kind 4", TrimChecker.DELETION)
        .words(4, 2, 0, 0, 0);
  }

  /** "The cursor becomes the new number of lines" */
  private static void movesTheCursor() {
    Texts.square("cursor").due("delete 0", 4).due("cursor", 1).due("delete 3", 5).due("cursor", 2)
        .due("lemma 1", 6).due("delete 6", 7).due("cursor", 4);
  }

  /** "the phase, conflict point, marks and the earlier text do not change" */
  private static void changesNothingElse() {
    Texts.square("nothing else").due("lemma 1", 4)
        .changesOnly("delete 2", 5, "cursor", "kind 5", "word 5", "alive 2", "forward 0").living(0, 1, 3, 4)
        .changesOnly("delete 4", 6, "cursor", "kind 6", "word 6", "alive 4", "forward 0").living(0, 1, 3)
        .changesOnly("delete 0", 7, "cursor", "kind 7", "word 7", "alive 0", "forward 0").living(1, 3)
        .state(TrimChecker.BUILDING, 4, TrimChecker.NONE).marks();
    Texts.accepted("where a marked lemma stood").due("rewind 4", 4).due("delete 1", 8).marks();
  }
}
