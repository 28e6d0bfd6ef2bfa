/** Promises 10, 11 and 12: the phase, the cursor and the conflict point through a whole life. */
public final class StateTest {
  public static void main(String[] args) {
    followsAnAcceptedText();
    followsARejectedText();
    asksWithoutChanging();
    Run.end();
  }

  private static void followsAnAcceptedText() {
    Texts.withWaste("accepted").state(TrimChecker.BUILDING, 6, TrimChecker.NONE)
        .due("seal", 5).state(TrimChecker.CHECKING, 5, 5)
        .due("back", TrimChecker.BY_RUP).state(TrimChecker.CHECKING, 4, 5)
        .due("back", TrimChecker.REVIVED).state(TrimChecker.CHECKING, 3, 5)
        .due("back", TrimChecker.REVIVED).state(TrimChecker.CHECKING, 2, 5)
        .due("back", TrimChecker.SKIPPED).state(TrimChecker.CHECKING, 1, 5)
        .due("back", TrimChecker.BY_RUP).state(TrimChecker.ACCEPTED, 0, 5)
        .due("back", TrimChecker.WRONG_PHASE).state(TrimChecker.ACCEPTED, 0, 5)
        .due("rewind 2", 2).state(TrimChecker.BUILDING, 2, TrimChecker.NONE);
    new Run("at once", 1, 1, 1).add(0, "axiom 0", "lemma 0").state(TrimChecker.BUILDING, 1, TrimChecker.NONE)
        .due("seal", 0).state(TrimChecker.ACCEPTED, 0, 0);
  }

  private static void followsARejectedText() {
    Texts.rejected("rejected").state(TrimChecker.REJECTED, 2, 2)
        .due("seal", TrimChecker.WRONG_PHASE).state(TrimChecker.REJECTED, 2, 2)
        .due("rewind 9", 3).state(TrimChecker.BUILDING, 3, TrimChecker.NONE);
  }

  private static void asksWithoutChanging() {
    Run[] runs = {
      Texts.withRat("building"), Texts.withRat("checking").due("seal", 3), Texts.accepted("accepted"),
      Texts.rejected("rejected")
    };
    int[] phases = {TrimChecker.BUILDING, TrimChecker.CHECKING, TrimChecker.ACCEPTED, TrimChecker.REJECTED};
    int[] cursors = {3, 3, 0, 2};
    int[] conflicts = {TrimChecker.NONE, 3, 5, 2};
    for (int i = 0; i < runs.length; i++) {
      runs[i].same("phase", phases[i]).same("cursor", cursors[i]).same("conflict", conflicts[i]);
    }
  }
}
