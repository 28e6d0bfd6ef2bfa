/** Promise 2. Above each test stands the sentence that it tests. */
public final class AxiomTest {
  public static void main(String[] args) {
    refusesOtherPhases();
    refusesAfterALine();
    ClauseEdges.refusesLiteralsOutside("axiom");
    ClauseEdges.takesLiteralsAtTheEdge("axiom");
    ClauseEdges.refusesOneStrangeAmongGood("axiom");
    refusesWhenFull();
    putsThePhaseFirst();
    putsBadBeforeFull();
    goesOnAfterRefusals();
    answersTheNumberBefore();
    ClauseEdges.storesAsGiven("axiom");
    changesNothingElse();
    Run.end();
  }

  /** "The phase is not BUILDING ...: WRONG_PHASE." */
  private static void refusesOtherPhases() {
    for (Run run : Texts.sealed()) {
      run.same("axiom 1", TrimChecker.WRONG_PHASE).same("axiom 0", TrimChecker.WRONG_PHASE);
    }
  }

  /** "... or there is at least one line: WRONG_PHASE." */
  private static void refusesAfterALine() {
    new Run("a lemma", 2, 3, 3).add(0, "axiom 1", "lemma 2").same("axiom 1", TrimChecker.WRONG_PHASE);
    new Run("a lemma without axioms", 2, 3, 3).add(0, "lemma 2").same("axiom 1", TrimChecker.WRONG_PHASE);
    new Run("a deletion", 2, 3, 3).add(0, "axiom 1", "delete 0").same("axiom 1", TrimChecker.WRONG_PHASE);
    new Run("a deleted lemma", 2, 3, 3).add(0, "lemma 1", "delete 0").same("axiom 1", TrimChecker.WRONG_PHASE);
    new Run("one line left", 2, 3, 3).add(0, "axiom 1", "lemma 2", "lemma 2").due("rewind 1", 1)
        .same("axiom 1", TrimChecker.WRONG_PHASE).due("rewind 0", 0).due("axiom 1", 1);
  }

  /** "There are already as many axioms as allowed: FULL." */
  private static void refusesWhenFull() {
    for (int most : new int[] {1, 2, 7, 12}) {
      Run run = new Run("full with " + most, 2, most, 1);
      for (int id = 0; id < most; id++) {
        run.due("axiom 1 2", id);
      }
      run.same("axiom 1 2", TrimChecker.FULL).same("axiom 0", TrimChecker.FULL).same("axiom -2", TrimChecker.FULL);
    }
  }

  /** "decides in this order": WRONG_PHASE comes before BAD and before FULL. */
  private static void putsThePhaseFirst() {
    for (Run run : Texts.sealedAndFull()) {
      run.same("axiom 2", TrimChecker.WRONG_PHASE).same("axiom 1", TrimChecker.WRONG_PHASE);
    }
    for (Run run : Texts.sealed()) {
      run.same("axiom 9", TrimChecker.WRONG_PHASE).same("axiom 0 0 0 " + Integer.MIN_VALUE, TrimChecker.WRONG_PHASE);
    }
    new Run("a line, full", 1, 1, 1).add(0, "axiom 1", "lemma 1")
        .same("axiom 2", TrimChecker.WRONG_PHASE).same("axiom 1", TrimChecker.WRONG_PHASE);
    new Run("a line, not full", 1, 2, 1).add(0, "axiom 1", "lemma 1").same("axiom 2", TrimChecker.WRONG_PHASE);
  }

  /** "decides in this order": BAD comes before FULL. */
  private static void putsBadBeforeFull() {
    new Run("full", 1, 1, 1).due("axiom 1", 0).same("axiom 2", TrimChecker.BAD).same("axiom 0 0 0 -2", TrimChecker.BAD)
        .same("axiom " + Integer.MAX_VALUE, TrimChecker.BAD).same("axiom 1", TrimChecker.FULL);
  }

  /** "These change nothing." */
  private static void goesOnAfterRefusals() {
    new Run("between", 2, 2, 2).same("axiom 3", TrimChecker.BAD).due("axiom 1", 0).same("axiom 1 2 -3", TrimChecker.BAD)
        .due("axiom 2", 1).same("axiom 1", TrimChecker.FULL).due("lemma 1", 2).same("axiom 1", TrimChecker.WRONG_PHASE)
        .due("lemma 2", 3).words(0, 1, 0, 0, 0).words(1, 2, 0, 0, 0).words(2, 1, 0, 0, 0).words(3, 2, 0, 0, 0);
  }

  /** "its id is answered, which is the number of axioms there were before" */
  private static void answersTheNumberBefore() {
    Run run = new Run("ids", 8, 12, 12);
    for (int id = 0; id < 12; id++) {
      run.due("kind " + id, TrimChecker.NOTHING).due("axiom 1 -" + (1 + id % 8), id)
          .due("kind " + id, TrimChecker.AXIOM);
    }
    run.due("rewind 0", 0).due("axiom 1", TrimChecker.FULL).due("rewind -1", 0).due("axiom 1", 0);
  }

  /** "The phase, cursor, conflict point and marks do not change; the new axiom is not marked." */
  private static void changesNothingElse() {
    Run run = new Run("nothing else", 3, 4, 4);
    String[] axioms = {"axiom 1 2", "axiom 0", "axiom -3 3", "axiom -1"};
    for (int id = 0; id < 4; id++) {
      run.changesOnly(axioms[id], id, "kind " + id, "word " + id, "alive " + id, "forward 0", "holds")
          .state(TrimChecker.BUILDING, 0, TrimChecker.NONE).marks();
    }
    Texts.accepted("after marks").due("rewind 0", 0).due("axiom 1", 4)
        .state(TrimChecker.BUILDING, 0, TrimChecker.NONE).marks().living(0, 1, 2, 3, 4);
  }
}
