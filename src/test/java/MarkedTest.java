/** Promise 14. */
public final class MarkedTest {
  public static void main(String[] args) {
    followsTheMarks();
    refusesStrangeIds();
    Run.end();
  }

  private static void followsTheMarks() {
    Texts.withWaste("marks").marks().due("seal", 5).marks(2, 3, 8)
        .due("back", TrimChecker.BY_RUP).marks(1, 2, 3, 4, 8)
        .due("back", TrimChecker.REVIVED).marks(1, 2, 3, 4, 8)
        .due("rewind 99", 6).marks();
    // Lemma 8 lies behind the cursor, and is still marked.
    Texts.accepted("accepted").marks(0, 1, 2, 3, 4, 8).due("alive 8", 0).same("marked 8", 1);
    Texts.rejected("rejected").marks(2);
    Texts.square("no conflict, no marks").due("seal", TrimChecker.NO_CONFLICT).marks();
  }

  private static void refusesStrangeIds() {
    Run run = Texts.accepted("strange ids");
    for (int id : new int[] {-1, -24, -32, 5, 6, 7, 9, 10, 24, 32, 34, 40, 64, Integer.MIN_VALUE, Integer.MAX_VALUE}) {
      run.same("marked " + id, 0);
    }
  }
}
