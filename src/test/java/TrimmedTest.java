/** Promise 8. */
public final class TrimmedTest {
  public static void main(String[] args) {
    refusesOtherPhases();
    listsRelevantLines();
    leavesOutUnmarkedLemmas();
    listsDeletionsOfMarkedLemmas();
    isEmptyWithoutLines();
    Run.end();
  }

  private static void refusesOtherPhases() {
    for (int k : new int[] {Integer.MIN_VALUE, -1, 0, 1, 99, Integer.MAX_VALUE}) {
      String call = "trimmed " + k;
      Texts.withRat("building").same(call, TrimChecker.WRONG_PHASE);
      Texts.withRat("checking").due("seal", 3).same(call, TrimChecker.WRONG_PHASE);
      Texts.rejected("rejected").same(call, TrimChecker.WRONG_PHASE);
    }
  }

  private static void listsRelevantLines() {
    refusesPlaces(Texts.accepted("waste").same("trimmed 0", 4).same("trimmed 1", 7).same("trimmed 2", 8), 3);
    Run run = Texts.withRat("deletion of an unmarked axiom").due("seal", 3)
        .due("back", TrimChecker.BY_RUP).due("back", TrimChecker.BY_RAT).due("back", TrimChecker.REVIVED)
        .due("marked 4", 0).same("trimmed 0", 5).same("trimmed 1", 6).same("trimmed 2", 7);
    refusesPlaces(run, 3);
  }

  private static void leavesOutUnmarkedLemmas() {
    Run run = Texts.square("deletions of unmarked lemmas")
        .add(4, "lemma 1 3", "lemma 3 1 2", "lemma -3 1", "delete 4", "delete 5", "lemma 1", "delete 6", "lemma 0");
    run.due("seal", 6).due("back", TrimChecker.BY_RUP)
        .due("back", TrimChecker.REVIVED).due("back", TrimChecker.REVIVED)
        .due("back", TrimChecker.SKIPPED).due("back", TrimChecker.SKIPPED).due("back", TrimChecker.SKIPPED)
        .same("trimmed 0", 9);
    refusesPlaces(run, 1);
  }

  private static void listsDeletionsOfMarkedLemmas() {
    Run run = new Run("deletion of a marked lemma", 8, 12, 12)
        .add(0, "axiom 1 2 3", "axiom 1 -2 3", "axiom 1 -3", "axiom -1 2", "axiom -1 -2", "axiom -4 5", "axiom -4 -5")
        .add(7, "lemma 1 3", "delete 0", "lemma 1 4", "delete 7", "lemma -4", "delete 11");
    run.due("seal", 5).marks(3, 4, 9, 11)
        .due("back", TrimChecker.BY_RUP).due("back", TrimChecker.REVIVED).due("back", TrimChecker.BY_RUP)
        .due("back", TrimChecker.REVIVED).due("back", TrimChecker.BY_RUP)
        .marks(0, 1, 2, 3, 4, 5, 6, 7, 9, 11)
        .same("trimmed 0", 7).same("trimmed 1", 8).same("trimmed 2", 9).same("trimmed 3", 10).same("trimmed 4", 11);
    refusesPlaces(run, 5);
  }

  private static void isEmptyWithoutLines() {
    Run run = new Run("conflict point 0", 2, 3, 3).add(0, "axiom 1", "axiom -1", "lemma 2", "delete 0").due("seal", 0);
    refusesPlaces(run, 0);
  }

  private static void refusesPlaces(Run run, int count) {
    for (int k : new int[] {-1, -2, Integer.MIN_VALUE, count, count + 1, 12, 24, Integer.MAX_VALUE}) {
      run.same("trimmed " + k, TrimChecker.BAD);
    }
  }
}
