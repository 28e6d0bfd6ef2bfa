/** Promise 3. */
public final class LemmaTest {
  public static void main(String[] args) {
    storesAsGiven();
    refusesLiterals();
    decidesInOrder();
    refusesOtherPhases();
    Run.end();
  }

  private static void storesAsGiven() {
    new Run("no axioms", 2, 1, 3).add(0, "lemma 0 2 -2 2", "lemma 0", "lemma -1")
        .due("kind 0", TrimChecker.LEMMA).due("kind 1", TrimChecker.LEMMA)
        .due("word 0 0", 0).due("word 0 1", 2).due("word 0 2", -2).due("word 0 3", 2)
        .due("word 2 0", -1).due("word 2 1", 0)
        .state(TrimChecker.BUILDING, 3, TrimChecker.NONE).marks().living(0, 1, 2);
    Run run = new Run("after axioms", 2, 3, 3).add(0, "axiom 1", "axiom -2");
    run.due("lemma 1 2", 2).due("cursor", 1).due("lemma -1 -2", 3).due("cursor", 2)
        .due("word 0 0", 1).due("word 1 0", -2).due("word 2 1", 2)
        .state(TrimChecker.BUILDING, 2, TrimChecker.NONE).marks().living(0, 1, 2, 3);
  }

  private static void refusesLiterals() {
    Run run = new Run("literals", 2, 2, 3).due("axiom 1", 0).due("lemma -2 2 -2 2", 1);
    run.refusesLiteralsAbove(2, "lemma");
    run.due("lemma 0 0 0 2", 2);
  }

  private static void decidesInOrder() {
    new Run("order", 1, 1, 1).due("lemma 0", 0)
        .same("lemma 2", TrimChecker.BAD).same("lemma 1", TrimChecker.FULL)
        .due("seal", 1)
        .same("lemma 2", TrimChecker.WRONG_PHASE).same("lemma 1", TrimChecker.WRONG_PHASE);
    new Run("deletions fill the lines", 1, 1, 2).add(0, "axiom 1", "delete 0", "lemma 1")
        .same("lemma 1", TrimChecker.FULL);
  }

  private static void refusesOtherPhases() {
    Texts.withRat("checking").due("seal", 3).same("lemma 1", TrimChecker.WRONG_PHASE);
    Texts.accepted("accepted").same("lemma 1", TrimChecker.WRONG_PHASE);
    Texts.rejected("rejected").same("lemma 1", TrimChecker.WRONG_PHASE);
  }
}
