/** Promise 13. */
public final class AliveTest {
  public static void main(String[] args) {
    followsTheCursor();
    refusesStrangeIds();
    Run.end();
  }

  private static void followsTheCursor() {
    new Run("building", 3, 3, 3).living().add(0, "axiom 1").living(0).add(1, "lemma 2").living(0, 1)
        .add(2, "delete 0").living(1).add(3, "delete 1").living();
    Texts.withWaste("going back").living(1, 2, 3, 4, 8, 9).due("seal", 5).living(1, 2, 3, 4, 8)
        .due("back", TrimChecker.BY_RUP).living(1, 2, 3, 4)
        .due("back", TrimChecker.REVIVED).living(0, 1, 2, 3, 4)
        .due("back", TrimChecker.REVIVED).living(0, 1, 2, 3, 4, 5)
        .due("back", TrimChecker.SKIPPED).living(0, 1, 2, 3, 4)
        .due("back", TrimChecker.BY_RUP).living(0, 1, 2, 3);
    Texts.square("deleted behind the conflict").add(4, "lemma 1", "delete 0", "delete 4").living(1, 2, 3)
        .due("seal", 1).living(0, 1, 2, 3, 4);
    Texts.rejected("rejected").living(0, 1, 2);
  }

  private static void refusesStrangeIds() {
    Run run = Texts.withWaste("strange ids");
    for (int id : new int[] {-1, -32, 6, 7, 10, 23, 24, 31, 32, 33, 36, 64, Integer.MIN_VALUE, Integer.MAX_VALUE}) {
      run.same("alive " + id, 0);
    }
    run.same("alive 1", 1);
  }
}
