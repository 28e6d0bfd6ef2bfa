/** Promise 4. */
public final class DeleteTest {
  public static void main(String[] args) {
    deletesClauses();
    refusesTargets();
    decidesInOrder();
    refusesOtherPhases();
    concernsOnlyItsTarget();
    Run.end();
  }

  private static void deletesClauses() {
    new Run("deletes", 2, 3, 6).add(0, "axiom 1", "axiom 2", "lemma 1 2")
        .due("delete 0", 3).due("cursor", 2).living(1, 2)
        .due("delete 2", 4).due("cursor", 3).living(1)
        .due("kind 0", TrimChecker.AXIOM).due("kind 2", TrimChecker.LEMMA)
        .due("kind 3", TrimChecker.DELETION).due("kind 4", TrimChecker.DELETION)
        .due("word 0 0", 1).due("word 2 1", 2).due("word 3 0", 0).due("word 4 0", 2)
        .state(TrimChecker.BUILDING, 3, TrimChecker.NONE).marks()
        .due("lemma 1", 5).living(1, 5);
  }

  private static void refusesTargets() {
    Run run = new Run("targets", 2, 3, 6).add(0, "axiom 1", "axiom 2", "lemma 1 2", "delete 0", "delete 2");
    for (int id : new int[] {0, 2, 3, 4, 5, 6, 23, 24, 25, 31, 32, 33, 34, -1, -2, -31, -32}) {
      run.same("delete " + id, TrimChecker.BAD);
    }
    run.same("delete " + Integer.MIN_VALUE, TrimChecker.BAD).same("delete " + Integer.MAX_VALUE, TrimChecker.BAD);
    run.due("delete 1", 5).same("delete 1", TrimChecker.BAD).living();
    new Run("empty text", 2, 3, 6).same("delete 0", TrimChecker.BAD);
  }

  private static void decidesInOrder() {
    new Run("order", 1, 2, 2).add(0, "axiom 1", "axiom -1", "delete 0", "lemma 0")
        .same("delete 0", TrimChecker.BAD).same("delete 9", TrimChecker.BAD)
        .same("delete 1", TrimChecker.FULL).same("delete 3", TrimChecker.FULL)
        .due("seal", 0).same("delete 9", TrimChecker.WRONG_PHASE).same("delete 1", TrimChecker.WRONG_PHASE);
  }

  private static void refusesOtherPhases() {
    Texts.withRat("checking").due("seal", 3).same("delete 0", TrimChecker.WRONG_PHASE);
    Texts.accepted("accepted").same("delete 0", TrimChecker.WRONG_PHASE);
    Texts.rejected("rejected").same("delete 0", TrimChecker.WRONG_PHASE);
  }

  private static void concernsOnlyItsTarget() {
    new Run("equal sets", 2, 3, 6).add(0, "axiom 1 2", "axiom 2 1", "lemma 1 2", "delete 1").living(0, 2);
  }
}
