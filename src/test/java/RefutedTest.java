/** The term "refuted". Above each test stands the sentence that it tests. */
public final class RefutedTest {
  public static void main(String[] args) {
    refutesBothSigns();
    refutesBothSignsInAnObligation();
    findsAClauseWithAllFalse();
    passesOverTrueClauses();
    takesOneUnassignedLiteral();
    repeatsAsLongAsPossible();
    stopsWhenNothingIsPossible();
    leavesTheOrderFree();
    Run.end();
  }

  /** "If T has both v and -v for some v, then R refutes T, even if R is empty." */
  private static void refutesBothSigns() {
    for (int v = 1; v <= 8; v++) {
      int other = 1 + v % 8;
      new Run("R is empty, " + v, 8, 2, 2).add(0, "lemma " + v + " -" + v, "lemma -" + v + " " + v)
          .due("forward 0", TrimChecker.NO_CONFLICT);
      // The axioms stand against the pivot, whichever sign it has.
      new Run("R is not empty, " + v, 8, 2, 2)
          .add(0, "axiom -" + v + " " + other, "axiom " + v + " " + other, "lemma " + v + " -" + v,
              "lemma 0 -" + v + " 0 " + v)
          .due("forward 0", TrimChecker.NO_CONFLICT);
      new Run("other literals stand between, " + v, 8, 2, 2)
          .add(0, "axiom -" + other + " " + v, "lemma " + other + " -" + v + " 0 " + v)
          .due("forward 0", TrimChecker.NO_CONFLICT);
    }
  }

  /** The same of an obligation: the lemma has the one sign, its partner the other, or the partner has both. */
  private static void refutesBothSignsInAnObligation() {
    new Run("one sign each", 4, 2, 2).add(0, "axiom -1 -2", "lemma 1 2").due("forward 0", TrimChecker.NO_CONFLICT);
    new Run("other signs", 4, 2, 2).add(0, "axiom 1 2", "lemma -1 -2").due("forward 0", TrimChecker.NO_CONFLICT);
    new Run("both in the partner", 4, 2, 2).add(0, "axiom -1 4 -4", "lemma 1")
        .due("forward 0", TrimChecker.NO_CONFLICT);
    new Run("no sign against another", 4, 2, 2).add(0, "axiom -1 2", "lemma 1 2")
        .due("forward 0", TrimChecker.FAILS_AT);
  }

  /** "if some clause of R has all its literals false (the empty clause always has), then R refutes T" */
  private static void findsAClauseWithAllFalse() {
    new Run("the empty clause", 2, 2, 2).due("axiom 0", 0).due("seal", 0).marks(0);
    new Run("the empty clause among others", 2, 3, 2).add(0, "axiom 1 2", "axiom 0", "axiom -1 2").due("seal", 0)
        .marks(1);
    // All false by T alone: the lemma's own literals. Axiom 1 stands against the pivot, so RAT would not do.
    new Run("by the lemma's literals", 4, 2, 2).add(0, "axiom 1 2 3", "axiom -1 4", "lemma 3 2 1")
        .due("forward 0", TrimChecker.NO_CONFLICT);
    new Run("by more literals than needed", 4, 2, 2).add(0, "axiom 1 2", "axiom -1 4", "lemma 1 2 3")
        .due("forward 0", TrimChecker.NO_CONFLICT);
    new Run("by one literal too few", 4, 2, 2).add(0, "axiom 1 2 3", "axiom -1 4", "lemma 1 2")
        .due("forward 0", TrimChecker.FAILS_AT);
  }

  /** "if some clause of R has no true literal": a clause with a true one gives nothing. */
  private static void passesOverTrueClauses() {
    new Run("true by a unit", 2, 3, 1).add(0, "axiom 1", "axiom 1 2", "axiom -2").due("seal", TrimChecker.NO_CONFLICT);
    new Run("true by a derived literal", 3, 4, 1).add(0, "axiom 1", "axiom -1 2", "axiom 2 3", "axiom -3")
        .due("seal", TrimChecker.NO_CONFLICT);
    new Run("true by the negated lemma", 3, 2, 2).add(0, "axiom -1 2", "axiom -1 -2", "lemma 1 3")
        .due("forward 0", TrimChecker.FAILS_AT);
  }

  /** "and exactly one unassigned literal (as a set), make that literal true" */
  private static void takesOneUnassignedLiteral() {
    new Run("one", 3, 4, 1).add(0, "axiom -1", "axiom 1 2", "axiom -2").due("seal", 0).marks(0, 1, 2);
    new Run("one, told four times", 3, 4, 1).add(0, "axiom 2 2 2 2", "axiom -2 -2 0 1", "axiom -1").due("seal", 0)
        .marks(0, 1, 2);
    new Run("two", 3, 4, 1).add(0, "axiom -1", "axiom 1 2 3", "axiom -2 3 1").due("seal", TrimChecker.NO_CONFLICT);
    new Run("two of the same variable", 3, 4, 1).add(0, "axiom -1", "axiom 1 2 -2")
        .due("seal", TrimChecker.NO_CONFLICT);
    new Run("a negative one", 3, 4, 1).add(0, "axiom 1", "axiom -1 -3", "axiom 3").due("seal", 0).marks(0, 1, 2);
  }

  /** "repeat as long as possible" */
  private static void repeatsAsLongAsPossible() {
    // Each clause stands before the one that makes it a unit, so a pass from the least id up finds one unit only.
    new Run("against the order", 8, 12, 1)
        .add(0, "axiom -7 -8", "axiom -7 8", "axiom -6 7", "axiom -5 6", "axiom -4 5", "axiom -3 4",
            "axiom -2 3", "axiom -1 2", "axiom 1")
        .due("seal", 0).marks(0, 1, 2, 3, 4, 5, 6, 7, 8);
    new Run("in order", 8, 12, 1)
        .add(0, "axiom 1", "axiom -1 2", "axiom -2 3", "axiom -3 4", "axiom -4 5", "axiom -5 6",
            "axiom -6 7", "axiom -7 8", "axiom -1 -2 -7 -8")
        .due("seal", 0).marks(0, 1, 2, 3, 4, 5, 6, 7, 8);
    new Run("from both ends", 8, 12, 1)
        .add(0, "axiom -8 -1", "axiom -7 8", "axiom -6 7", "axiom -5 6", "axiom -4 5", "axiom -3 4",
            "axiom -2 3", "axiom -1 2", "axiom 1")
        .due("seal", 0).marks(0, 1, 2, 3, 4, 5, 6, 7, 8);
  }

  /** "If neither is possible any more, R does not refute T." */
  private static void stopsWhenNothingIsPossible() {
    new Run("R is empty", 3, 3, 3).due("seal", TrimChecker.NO_CONFLICT);
    Texts.square("no model, but no unit clause").due("seal", TrimChecker.NO_CONFLICT);
    new Run("all assigned", 8, 12, 1)
        .add(0, "axiom -7 8", "axiom -6 7", "axiom -5 6", "axiom -4 5", "axiom -3 4", "axiom -2 3", "axiom -1 2",
            "axiom 1")
        .due("seal", TrimChecker.NO_CONFLICT);
  }

  /** "The order in which clauses are taken makes no difference to the outcome." */
  private static void leavesTheOrderFree() {
    String[] axioms = {"axiom 1", "axiom -1 2", "axiom -2 3", "axiom -3 -1 -2"};
    for (int first = 0; first < 4; first++) {
      for (int second = 0; second < 4; second++) {
        for (int third = 0; third < 4; third++) {
          int fourth = 6 - first - second - third;
          if (first != second && first != third && second != third) {
            new Run("order " + first + second + third, 3, 4, 1)
                .add(0, axioms[first], axioms[second], axioms[third], axioms[fourth]).due("seal", 0).marks(0, 1, 2, 3);
          }
        }
      }
    }
  }
}
