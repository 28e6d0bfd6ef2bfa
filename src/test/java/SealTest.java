/** Promise 5, and the terms "refuted" and "keeping" as far as sealing shows them. */
public final class SealTest {
  public static void main(String[] args) {
    findsNoConflict();
    findsConflictAtStart();
    findsConflictAtLastLine();
    findsLeastPoint();
    deletionsPutItOff();
    takesClausesAsSets();
    keepsFromTheGreatestIdDown();
    followsLongChains();
    refusesOtherPhases();
    Run.end();
  }

  private static void findsNoConflict() {
    new Run("empty text", 3, 3, 3).same("seal", TrimChecker.NO_CONFLICT);
    Texts.square("unsatisfiable, but no unit clause").same("seal", TrimChecker.NO_CONFLICT)
        .state(TrimChecker.BUILDING, 0, TrimChecker.NONE).due("axiom 1", 4);
    Texts.square("a deletion comes too early").add(4, "delete 2", "lemma 1").same("seal", TrimChecker.NO_CONFLICT)
        .state(TrimChecker.BUILDING, 2, TrimChecker.NONE).due("lemma -1", 6);
  }

  private static void findsConflictAtStart() {
    new Run("two units", 1, 3, 3).add(0, "axiom 1", "axiom -1", "lemma 1").due("seal", 0)
        .state(TrimChecker.ACCEPTED, 0, 0).marks(0, 1).living(0, 1).due("kind 2", TrimChecker.LEMMA);
    new Run("empty axiom", 1, 3, 3).add(0, "axiom 0").due("seal", 0)
        .state(TrimChecker.ACCEPTED, 0, 0).marks(0);
  }

  private static void findsConflictAtLastLine() {
    Texts.square("last line").add(4, "lemma 3", "lemma 1").due("seal", 2)
        .state(TrimChecker.CHECKING, 2, 2).marks(2, 3, 5).living(0, 1, 2, 3, 4, 5);
    new Run("no axioms", 1, 1, 1).due("lemma 0", 0).due("seal", 1).state(TrimChecker.CHECKING, 1, 1).marks(0);
  }

  private static void findsLeastPoint() {
    Texts.square("least").add(4, "lemma 1", "delete 4", "lemma 0", "lemma -1").due("seal", 1)
        .state(TrimChecker.CHECKING, 1, 1).marks(2, 3, 4).living(0, 1, 2, 3, 4)
        .due("kind 5", TrimChecker.DELETION).due("kind 7", TrimChecker.LEMMA).due("word 7 0", -1);
  }

  private static void deletionsPutItOff() {
    Texts.square("put off").add(4, "lemma 4", "delete 3", "lemma 1", "lemma -1 -2").due("seal", 4)
        .state(TrimChecker.CHECKING, 4, 4).marks(2, 6, 7).living(0, 1, 2, 4, 6, 7);
  }

  private static void takesClausesAsSets() {
    new Run("repeats count once", 2, 3, 3).add(0, "axiom 1 1 1 1", "axiom 0 -1 0 -1").due("seal", 0).marks(0, 1);
    new Run("both signs never bite", 2, 4, 3).add(0, "axiom 1 -1", "axiom 2 -2 1 -1")
        .same("seal", TrimChecker.NO_CONFLICT);
    new Run("both signs and a unit", 2, 4, 3).add(0, "axiom 1", "axiom 1 -1 2", "axiom -1 2 -2")
        .same("seal", TrimChecker.NO_CONFLICT);
  }

  private static void keepsFromTheGreatestIdDown() {
    new Run("the later pair goes", 2, 4, 1).add(0, "axiom 1", "axiom -1", "axiom 2", "axiom -2")
        .due("seal", 0).marks(0, 1);
    new Run("of equal clauses the least id stays", 2, 4, 1).add(0, "axiom 1", "axiom 1", "axiom -1", "axiom -1")
        .due("seal", 0).marks(0, 2);
    new Run("the empty clause goes first", 2, 4, 1).add(0, "axiom 1", "axiom -1", "axiom 0").due("seal", 0).marks(0, 1);
    new Run("the empty clause stays alone", 2, 4, 1).add(0, "axiom 0", "axiom 1", "axiom -1").due("seal", 0).marks(0);
    // Clauses 2 and 3 alone would do, but 3 is taken out first.
    new Run("not the fewest", 3, 5, 1).add(0, "axiom 1", "axiom -1 2", "axiom -2", "axiom 2").due("seal", 0).marks(0, 1, 2);
  }

  private static void followsLongChains() {
    // Each clause stands before the one that makes it a unit, so a pass from the least id up finds one unit only.
    new Run("chain", 8, 12, 1)
        .add(0, "axiom -7 -8", "axiom -7 8", "axiom -6 7", "axiom -5 6", "axiom -4 5", "axiom -3 4",
            "axiom -2 3", "axiom -1 2", "axiom 1")
        .due("seal", 0).marks(0, 1, 2, 3, 4, 5, 6, 7, 8);
    new Run("chain in order", 8, 12, 1)
        .add(0, "axiom 1", "axiom -1 2", "axiom -2 3", "axiom -3 4", "axiom -4 5", "axiom -5 6",
            "axiom -6 7", "axiom -7 8", "axiom -1 -2 -7 -8")
        .due("seal", 0).marks(0, 1, 2, 3, 4, 5, 6, 7, 8);
  }

  private static void refusesOtherPhases() {
    Texts.withRat("checking").due("seal", 3).same("seal", TrimChecker.WRONG_PHASE);
    Texts.accepted("accepted").same("seal", TrimChecker.WRONG_PHASE);
    Texts.rejected("rejected").same("seal", TrimChecker.WRONG_PHASE);
  }
}
