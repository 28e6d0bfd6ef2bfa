/** Promise 3. Above each test stands the sentence that it tests. */
public final class LemmaTest {
  public static void main(String[] args) {
    refusesOtherPhases();
    ClauseEdges.refusesLiteralsOutside("lemma");
    ClauseEdges.takesLiteralsAtTheEdge("lemma");
    ClauseEdges.refusesOneStrangeAmongGood("lemma");
    refusesWhenFull();
    putsThePhaseFirst();
    putsBadBeforeFull();
    goesOnAfterRefusals();
    answersItsId();
    doesNotLookAtPassing();
    needsNoAxioms();
    ClauseEdges.storesAsGiven("lemma");
    movesTheCursor();
    changesNothingElse();
    Run.end();
  }

  /** "The phase is not BUILDING: WRONG_PHASE." */
  private static void refusesOtherPhases() {
    for (Run run : Texts.sealed()) {
      run.same("lemma 1", TrimChecker.WRONG_PHASE).same("lemma 0", TrimChecker.WRONG_PHASE);
    }
  }

  /** "There are already as many lines as allowed: FULL." */
  private static void refusesWhenFull() {
    for (int most : new int[] {1, 2, 7, 12}) {
      Run run = new Run("full with " + most, 2, 1, most);
      for (int line = 0; line < most; line++) {
        run.due("lemma 1 2", line);
      }
      run.same("lemma 1 2", TrimChecker.FULL).same("lemma 0", TrimChecker.FULL).same("lemma -2", TrimChecker.FULL);
    }
    new Run("deletions are lines too", 1, 1, 2).add(0, "axiom 1", "delete 0", "lemma 1")
        .same("lemma 1", TrimChecker.FULL);
    new Run("deleting a lemma gives no room", 1, 1, 2).add(0, "lemma 1", "delete 0").same("lemma 1", TrimChecker.FULL);
  }

  /** "decides in this order": WRONG_PHASE comes before BAD and before FULL. */
  private static void putsThePhaseFirst() {
    for (Run run : Texts.sealedAndFull()) {
      run.same("lemma 2", TrimChecker.WRONG_PHASE).same("lemma 1", TrimChecker.WRONG_PHASE);
    }
    for (Run run : Texts.sealed()) {
      run.same("lemma 9", TrimChecker.WRONG_PHASE).same("lemma 0 0 0 " + Integer.MIN_VALUE, TrimChecker.WRONG_PHASE);
    }
  }

  /** "decides in this order": BAD comes before FULL. */
  private static void putsBadBeforeFull() {
    new Run("full", 1, 1, 1).due("lemma 1", 0).same("lemma 2", TrimChecker.BAD).same("lemma 0 0 0 -2", TrimChecker.BAD)
        .same("lemma " + Integer.MAX_VALUE, TrimChecker.BAD).same("lemma 1", TrimChecker.FULL);
  }

  /** "These change nothing." */
  private static void goesOnAfterRefusals() {
    new Run("between", 2, 2, 2).due("axiom 1", 0).same("lemma 3", TrimChecker.BAD).due("lemma -2", 1)
        .same("lemma 1 2 -3", TrimChecker.BAD).due("lemma 0", 2).same("lemma 1", TrimChecker.FULL)
        .words(1, -2, 0, 0, 0).words(2, 0, 0, 0, 0).due("kind 3", TrimChecker.NOTHING).due("seal", 2)
        .same("lemma 1", TrimChecker.WRONG_PHASE).due("cursor", 2);
  }

  /** "its id is answered (number of axioms plus its line number)" */
  private static void answersItsId() {
    for (int axioms : new int[] {1, 5, 12}) {
      Run run = new Run("after " + axioms, 2, 12, 12);
      for (int id = 0; id < axioms; id++) {
        run.due("axiom 1 2", id);
      }
      for (int line = 0; line < 12; line++) {
        run.due("lemma 2 -1", axioms + line);
      }
      run.due("kind " + (axioms - 1), TrimChecker.AXIOM).due("kind " + axioms, TrimChecker.LEMMA)
          .due("kind " + (axioms + 11), TrimChecker.LEMMA).due("kind " + (axioms + 12), TrimChecker.NOTHING);
    }
    new Run("after a deletion", 2, 3, 3).add(0, "axiom 1", "axiom 2", "delete 0", "lemma 1", "lemma 2");
  }

  /** "Whether it passes is not looked at." */
  private static void doesNotLookAtPassing() {
    new Run("against an axiom", 2, 2, 3).add(0, "axiom 1", "axiom 2").due("lemma -1", 2).living(0, 1, 2)
        .due("forward 0", TrimChecker.FAILS_AT);
    new Run("empty", 2, 2, 3).add(0, "axiom 1").due("lemma 0", 1).living(0, 1).due("lemma -2", 2);
    new Run("after a conflict", 2, 2, 3).add(0, "axiom 0").due("lemma 1", 1).due("lemma -1", 2).living(0, 1, 2);
  }

  /** "There may be no axioms." */
  private static void needsNoAxioms() {
    new Run("no axioms", 2, 1, 3).add(0, "lemma 2", "lemma 0 -1 0 2", "lemma 0")
        .due("kind 0", TrimChecker.LEMMA).due("kind 2", TrimChecker.LEMMA).words(1, 0, -1, 0, 2)
        .state(TrimChecker.BUILDING, 3, TrimChecker.NONE).living(0, 1, 2);
  }

  /** "The cursor becomes the new number of lines" */
  private static void movesTheCursor() {
    Run run = Texts.square("cursor").due("cursor", 0);
    for (int line = 0; line < 12; line++) {
      run.due("lemma 1 2", 4 + line).due("cursor", line + 1);
    }
    run.due("lemma 1", TrimChecker.FULL).due("cursor", 12);
  }

  /** "the phase, conflict point, marks and the earlier text do not change. The new lemma is not marked." */
  private static void changesNothingElse() {
    Run run = Texts.square("nothing else");
    String[] lemmas = {"lemma 3 1", "lemma 0 -3", "lemma 1", "lemma 0", "lemma 8 -8"};
    for (int i = 0; i < lemmas.length; i++) {
      int id = 4 + i;
      run.changesOnly(lemmas[i], id, "cursor", "kind " + id, "word " + id, "alive " + id, "forward 0")
          .state(TrimChecker.BUILDING, i + 1, TrimChecker.NONE).marks();
    }
    Texts.accepted("where a marked lemma stood").due("rewind 4", 4).due("lemma 1", 8).marks();
  }
}
