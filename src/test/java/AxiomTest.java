/** Promise 2. */
public final class AxiomTest {
  public static void main(String[] args) {
    storesAsGiven();
    refusesLiterals();
    decidesInOrder();
    refusesOtherPhases();
    Run.end();
  }

  private static void storesAsGiven() {
    new Run("stored", 3, 4, 2)
        .add(0, "axiom 0 -2 0 3", "axiom 1 1 1 1", "axiom 3 -3 2 1", "axiom 0 0 0 0")
        .due("word 0 0", 0).due("word 0 1", -2).due("word 0 2", 0).due("word 0 3", 3)
        .due("word 1 0", 1).due("word 1 1", 1).due("word 1 2", 1).due("word 1 3", 1)
        .due("word 2 0", 3).due("word 2 1", -3).due("word 2 2", 2).due("word 2 3", 1)
        .due("word 3 0", 0).due("word 3 3", 0)
        .state(TrimChecker.BUILDING, 0, TrimChecker.NONE).marks().living(0, 1, 2, 3);
  }

  private static void refusesLiterals() {
    Run run = new Run("literals", 3, 4, 2).due("axiom 3 -3 3 -3", 0);
    run.refusesLiteralsAbove(3, "axiom");
    run.due("axiom 0 0 0 -3", 1);
  }

  private static void decidesInOrder() {
    new Run("order", 1, 1, 1).due("axiom 1", 0)
        .same("axiom 2", TrimChecker.BAD).same("axiom 1", TrimChecker.FULL)
        .due("lemma 1", 1)
        .same("axiom 2", TrimChecker.WRONG_PHASE).same("axiom 1", TrimChecker.WRONG_PHASE);
    new Run("after a deletion", 2, 2, 2).due("axiom 1", 0).due("delete 0", 1)
        .same("axiom 1", TrimChecker.WRONG_PHASE).same("axiom 3", TrimChecker.WRONG_PHASE);
  }

  private static void refusesOtherPhases() {
    Texts.withRat("checking").due("seal", 3).same("axiom 1", TrimChecker.WRONG_PHASE);
    Texts.accepted("accepted").same("axiom 9", TrimChecker.WRONG_PHASE);
    Texts.rejected("rejected").same("axiom 1", TrimChecker.WRONG_PHASE);
    new Run("accepted without a line", 1, 2, 1).due("axiom 0", 0).due("seal", 0)
        .same("axiom 1", TrimChecker.WRONG_PHASE).same("axiom 2", TrimChecker.WRONG_PHASE);
  }
}
