/** Promise 7. */
public final class ForwardTest {
  public static void main(String[] args) {
    decidesInOrder();
    findsTheConflict();
    failsAtALine();
    passesLemmas();
    deletesOnTheWay();
    goesThroughViews();
    ignoresTheCursor();
    Run.end();
  }

  private static void decidesInOrder() {
    Run[] runs = {
      Texts.withRat("building"), Texts.withRat("checking").due("seal", 3), Texts.rejected("rejected")
    };
    for (Run run : runs) {
      refusesStrangeViews(run);
      run.same("forward 1", TrimChecker.WRONG_PHASE).same("forward 2", TrimChecker.WRONG_PHASE);
    }
    refusesStrangeViews(Texts.accepted("accepted"));
  }

  private static void refusesStrangeViews(Run run) {
    for (int view : new int[] {-1, 3, 4, 32, 256, Integer.MIN_VALUE, Integer.MAX_VALUE}) {
      run.same("forward " + view, TrimChecker.BAD);
    }
  }

  private static void findsTheConflict() {
    new Run("empty text", 2, 2, 2).same("forward 0", TrimChecker.NO_CONFLICT);
    Texts.square("no line").same("forward 0", TrimChecker.NO_CONFLICT);
    Texts.square("after the last line").due("lemma 1", 4).same("forward 0", 1);
    Texts.square("before a bad line").add(4, "lemma 1", "lemma 0").same("forward 0", 1);
    new Run("at the start", 2, 2, 2).add(0, "axiom 0", "lemma 1").same("forward 0", 0);
    Texts.withRat("on the way").same("forward 0", 3).due("delete 0", 8).same("forward 0", 3);
  }

  private static void failsAtALine() {
    new Run("line 0", 2, 2, 4).add(0, "axiom 1 2", "lemma 0").same("forward 0", TrimChecker.FAILS_AT);
    new Run("line 2", 4, 2, 4).add(0, "axiom 1 2", "lemma 3", "delete 1", "lemma 0", "lemma 0")
        .same("forward 0", TrimChecker.FAILS_AT + 2);
    Texts.square("the last of twelve lines")
        .add(4, "lemma 3", "lemma 3", "lemma 3", "lemma 3", "lemma 3", "lemma 3", "lemma 3", "lemma 3", "lemma 3",
            "lemma 3", "lemma 3", "lemma 0")
        .same("forward 0", TrimChecker.FAILS_AT + 11);
  }

  private static void passesLemmas() {
    new Run("both signs, no clause", 2, 2, 2).add(0, "lemma -2 2").same("forward 0", TrimChecker.NO_CONFLICT);
    new Run("the pivot meets nothing", 3, 2, 2).add(0, "axiom -1 2", "lemma 3 1")
        .same("forward 0", TrimChecker.NO_CONFLICT);
    new Run("the pivot meets a clause", 3, 2, 2).add(0, "axiom -1 2", "lemma 1 3")
        .same("forward 0", TrimChecker.FAILS_AT);
    new Run("an added lemma supports the next", 3, 2, 3).add(0, "axiom -1 2", "axiom -2 1", "lemma 3 1", "lemma 2 3")
        .same("forward 0", TrimChecker.NO_CONFLICT);
    new Run("the same without support", 3, 2, 3).add(0, "axiom -1 2", "axiom -2 1", "lemma 2 3")
        .same("forward 0", TrimChecker.FAILS_AT);
    new Run("an added lemma stands against the next", 3, 2, 3).add(0, "lemma 3 1", "lemma -3")
        .same("forward 0", TrimChecker.FAILS_AT + 1);
  }

  private static void deletesOnTheWay() {
    new Run("the obstacle is deleted", 3, 2, 3).add(0, "lemma 3 1", "delete 0", "lemma -3")
        .same("forward 0", TrimChecker.NO_CONFLICT);
    Texts.square("the support is deleted").add(4, "delete 0", "lemma 1").same("forward 0", TrimChecker.FAILS_AT + 1);
    Texts.square("the conflict is put off")
        .add(4, "lemma -1 2 5 6", "lemma -1 2 5 -6", "lemma -1 2 -5 6", "lemma -1 2 -5 -6")
        .add(8, "delete 2", "lemma 1", "lemma 5").same("forward 0", 7);
  }

  private static void goesThroughViews() {
    Texts.accepted("waste").same("forward 0", 5).same("forward 1", 5).same("forward 2", 5);
    Texts.withRat("rat").due("seal", 3).due("back", TrimChecker.BY_RUP).due("back", TrimChecker.BY_RAT)
        .due("back", TrimChecker.REVIVED).same("forward 0", 3).same("forward 1", 3).same("forward 2", 3);
    // Lemma 5 does not pass, but it is marked in neither of the trimmed views.
    Texts.square("a bad line is trimmed away").add(4, "axiom -5 6", "lemma 5", "lemma 1")
        .due("seal", 2).due("back", TrimChecker.BY_RUP).due("back", TrimChecker.SKIPPED)
        .same("forward 0", TrimChecker.FAILS_AT).same("forward 1", 2).same("forward 2", 2);
  }

  private static void ignoresTheCursor() {
    Run run = Texts.withWaste("cursor").due("seal", 5);
    for (int cursor = 5; cursor > 0; cursor--) {
      run.due("cursor", cursor).same("forward 0", 5);
      run.due("back", cursor == 5 || cursor == 1 ? TrimChecker.BY_RUP
          : cursor == 2 ? TrimChecker.SKIPPED : TrimChecker.REVIVED);
    }
    Texts.rejected("rejected").same("forward 0", TrimChecker.FAILS_AT + 1);
  }
}
