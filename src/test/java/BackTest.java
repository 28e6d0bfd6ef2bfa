/** Promise 6, and the terms "passing" and "keeping" as far as going back shows them. */
public final class BackTest {
  public static void main(String[] args) {
    goesBackOverEveryKind();
    passesByRatWithoutObligations();
    passesByRatWithObligations();
    looksAtUnmarkedClausesToo();
    takesTheFirstLiteralAsPivot();
    leavesMarkedClausesIn();
    rejects();
    skipsWhatNeedNotPass();
    refusesOtherPhases();
    Run.end();
  }

  private static void goesBackOverEveryKind() {
    Texts.withWaste("every kind").due("seal", 5)
        .state(TrimChecker.CHECKING, 5, 5).marks(2, 3, 8).living(1, 2, 3, 4, 8)
        .due("back", TrimChecker.BY_RUP).state(TrimChecker.CHECKING, 4, 5).marks(1, 2, 3, 4, 8).living(1, 2, 3, 4)
        .due("back", TrimChecker.REVIVED).state(TrimChecker.CHECKING, 3, 5).marks(1, 2, 3, 4, 8).living(0, 1, 2, 3, 4)
        .due("back", TrimChecker.REVIVED).state(TrimChecker.CHECKING, 2, 5).marks(1, 2, 3, 4, 8)
        .living(0, 1, 2, 3, 4, 5)
        .due("back", TrimChecker.SKIPPED).state(TrimChecker.CHECKING, 1, 5).marks(1, 2, 3, 4, 8)
        .living(0, 1, 2, 3, 4)
        .due("back", TrimChecker.BY_RUP).state(TrimChecker.ACCEPTED, 0, 5).marks(0, 1, 2, 3, 4, 8)
        .living(0, 1, 2, 3)
        .due("kind 9", TrimChecker.LEMMA).same("back", TrimChecker.WRONG_PHASE);
  }

  private static void passesByRatWithoutObligations() {
    Texts.withRat("no obligations").due("seal", 3).marks(2, 3, 6, 7)
        .due("back", TrimChecker.BY_RUP).marks(0, 1, 2, 3, 6, 7)
        .due("back", TrimChecker.BY_RAT).marks(0, 1, 2, 3, 6, 7).state(TrimChecker.CHECKING, 1, 3)
        .due("back", TrimChecker.REVIVED).marks(0, 1, 2, 3, 6, 7).state(TrimChecker.ACCEPTED, 0, 3);
  }

  private static void passesByRatWithObligations() {
    // Clauses 5 and 6 are not needed: 5 is a copy of 1, and 6 only gives an obligation that refutes itself.
    new Run("obligations", 4, 12, 12)
        .add(0, "axiom -3 1", "axiom 1 2", "axiom 1 -2", "axiom -1 2", "axiom -1 -2", "axiom 2 1", "axiom -3 4 -4",
            "lemma 3")
        .due("seal", 1).marks(0, 3, 4, 7)
        .due("back", TrimChecker.BY_RAT).marks(0, 1, 2, 3, 4, 7).state(TrimChecker.ACCEPTED, 0, 1);
    new Run("all obligations count", 4, 12, 12)
        .add(0, "axiom -3 1", "axiom -3 2", "axiom 1 4", "axiom 1 -4", "axiom 2 4", "axiom 2 -4",
            "axiom -1 -2", "lemma 3")
        .due("seal", 1).marks(0, 1, 6, 7)
        .due("back", TrimChecker.BY_RAT).marks(0, 1, 2, 3, 4, 5, 6, 7);
  }

  private static void looksAtUnmarkedClausesToo() {
    Run run = Texts.square("an unmarked clause stands against it").add(4, "axiom -3 4", "lemma 3", "lemma -3 1");
    run.due("seal", 2).due("back", TrimChecker.BY_RUP).due("marked 4", 0)
        .due("back", TrimChecker.NOT_PASSED).state(TrimChecker.REJECTED, 1, 2);
    Texts.square("a lemma stands against it").add(4, "lemma -3 4", "lemma 3", "lemma -3 1")
        .due("seal", 3).due("back", TrimChecker.BY_RUP).due("marked 4", 0)
        .due("back", TrimChecker.NOT_PASSED).state(TrimChecker.REJECTED, 2, 3);
  }

  private static void takesTheFirstLiteralAsPivot() {
    goBackToPivotLemma("good pivot", "lemma 0 3 0 4", TrimChecker.BY_RAT);
    goBackToPivotLemma("bad pivot", "lemma 0 4 0 3", TrimChecker.NOT_PASSED);
  }

  /** The lemma has 3 and 4 in some order; clause 4 of the text stands against the pivot 4 alone. */
  private static void goBackToPivotLemma(String name, String lemma, int want) {
    Texts.square(name).add(4, "axiom -4 5", "axiom -5", lemma, "lemma -3 1")
        .due("seal", 2).marks(2, 3, 4, 5, 6, 7)
        .due("back", TrimChecker.BY_RUP).marks(0, 1, 2, 3, 4, 5, 6, 7).due("back", want);
  }

  private static void leavesMarkedClausesIn() {
    // Clauses 0 and 3 are equal; 3 got its mark while 0 was deleted, so 0 is not needed once it is back.
    new Run("marked ones stay", 6, 12, 12)
        .add(0, "axiom -1 -2", "axiom 2 5", "axiom -5 2", "axiom -1 -2", "axiom 1 6", "axiom 1 -6")
        .add(6, "lemma -1 5", "delete 0", "delete 1", "lemma 1")
        .due("seal", 4).marks(2, 3, 6, 9)
        .due("back", TrimChecker.BY_RUP).marks(2, 3, 4, 5, 6, 9)
        .due("back", TrimChecker.REVIVED).due("back", TrimChecker.REVIVED)
        .due("back", TrimChecker.BY_RUP).marks(1, 2, 3, 4, 5, 6, 9)
        .state(TrimChecker.ACCEPTED, 0, 4);
  }

  private static void rejects() {
    Texts.rejected("empty lemma").state(TrimChecker.REJECTED, 2, 2).marks(2).living(0, 1, 2)
        .due("kind 3", TrimChecker.LEMMA).same("back", TrimChecker.WRONG_PHASE);
    new Run("a lemma does not stand by itself", 1, 1, 2).add(0, "axiom -1", "lemma 1")
        .due("seal", 1).marks(0, 1)
        .due("back", TrimChecker.NOT_PASSED).state(TrimChecker.REJECTED, 1, 1).marks(0, 1);
  }

  private static void skipsWhatNeedNotPass() {
    Texts.square("skipped").add(4, "axiom -5 6", "lemma 5", "lemma 1")
        .due("forward 0", TrimChecker.FAILS_AT)
        .due("seal", 2).due("back", TrimChecker.BY_RUP).due("back", TrimChecker.SKIPPED)
        .state(TrimChecker.ACCEPTED, 0, 2).marks(0, 1, 2, 3, 6);
  }

  private static void refusesOtherPhases() {
    Texts.withRat("building").same("back", TrimChecker.WRONG_PHASE);
    Texts.accepted("accepted").same("back", TrimChecker.WRONG_PHASE);
    Texts.rejected("rejected").same("back", TrimChecker.WRONG_PHASE);
  }
}
