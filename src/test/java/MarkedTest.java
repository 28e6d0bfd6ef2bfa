/** Promise 14. Above each test stands the sentence that it tests. */
public final class MarkedTest {
  public static void main(String[] args) {
    tellsMarkedClauses();
    ignoresTheCursor();
    refusesUnmarkedClauses();
    refusesDeletions();
    refusesIdsNotInTheText();
    isFalseInBuilding();
    Run.end();
  }

  /** "answers true if id is a marked clause" */
  private static void tellsMarkedClauses() {
    Texts.checking("marks").marks(2, 3, 8)
        .due("back", TrimChecker.BY_RUP).marks(1, 2, 3, 4, 8)
        .due("back", TrimChecker.REVIVED).marks(1, 2, 3, 4, 8).same("marked 1", 1).same("marked 8", 1);
    Texts.rejected("rejected").marks(2).same("marked 2", 1);
    Texts.greatestAccepted("the first and the last id").same("marked 0", 1).same("marked 23", 1);
  }

  /** "whatever the cursor" */
  private static void ignoresTheCursor() {
    // Lemmas 4 and 8 are on lines 0 and 4; axiom 0 is deleted on line 3.
    Texts.accepted("cursor 0").due("cursor", 0).same("marked 4", 1).same("marked 8", 1).same("marked 0", 1);
    Texts.checking("cursor 5").due("cursor", 5).same("marked 8", 1).due("back", TrimChecker.BY_RUP)
        .due("cursor", 4).same("marked 8", 1);
  }

  /** "and false for any other id (unmarked clauses" */
  private static void refusesUnmarkedClauses() {
    Texts.checking("checking").same("marked 0", 0).same("marked 1", 0).same("marked 4", 0).same("marked 5", 0)
        .same("marked 9", 0);
    Texts.accepted("accepted").same("marked 5", 0).same("marked 9", 0);
  }

  /** "deletions" */
  private static void refusesDeletions() {
    Texts.checking("checking").same("marked 6", 0).same("marked 7", 0);
    Texts.accepted("the target is marked").words(7, 0, 0, 0, 0).same("marked 0", 1).same("marked 7", 0);
    Texts.greatestAccepted("eight of them").same("marked 12", 0).same("marked 19", 0);
  }

  /** "ids not in the text)" */
  private static void refusesIdsNotInTheText() {
    for (Run run : new Run[] {Texts.checking("checking"), Texts.accepted("accepted"),
        Texts.greatestAccepted("greatest")}) {
      // Some are 32 or 64 away from marked ids: a shift by them would hit those.
      for (int id : new int[] {-1, -8, -24, -28, -30, -32, -62, -64, 24, 31, 32, 34, 35, 40, 66, 256,
          Integer.MIN_VALUE, Integer.MIN_VALUE + 2, Integer.MAX_VALUE}) {
        run.same("marked " + id, 0);
      }
    }
    Texts.accepted("just behind the text").same("marked 10", 0).same("marked 23", 0);
  }

  /** "In BUILDING it is always false." */
  private static void isFalseInBuilding() {
    new Run("new", 1, 1, 1).marks();
    Texts.withWaste("before sealing").marks();
    Texts.square("after NO_CONFLICT").due("seal", TrimChecker.NO_CONFLICT).marks();
    Texts.accepted("after rewinding").due("rewind 99", 6).marks().due("rewind 0", 0).marks().due("lemma 1", 4).marks();
    Texts.rejected("after a rejection").due("rewind 99", 3).marks();
  }
}
