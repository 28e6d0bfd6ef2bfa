/** The terms "literals", "clauses" and "text". Above each test stands the sentence that it tests. */
public final class ClauseTest {
  public static void main(String[] args) {
    takesZeroAsNoLiteral();
    countsRepeatsOnce();
    takesBothSigns();
    knowsTheEmptyClause();
    takesTheFirstLiteralAsPivot();
    findsNoPivotInTheEmptyClause();
    numbersLinesAfterAxioms();
    takesNoDeletionForAClause();
    marksEqualClausesApart();
    deletesEqualClausesApart();
    Run.end();
  }

  /** "0 is no literal: it stands for an unused place." */
  private static void takesZeroAsNoLiteral() {
    for (String unit : new String[] {"1 0 0 0", "0 1 0 0", "0 0 1 0", "0 0 0 1"}) {
      new Run("a unit as " + unit, 1, 2, 1).add(0, "axiom " + unit, "axiom -1").due("seal", 0).marks(0, 1);
    }
    for (String pair : new String[] {"1 2 0 0", "0 1 2 0", "0 0 1 2", "1 0 0 2", "0 1 0 2"}) {
      new Run("a pair as " + pair, 2, 3, 1).add(0, "axiom " + pair, "axiom -1", "axiom -2").due("seal", 0)
          .marks(0, 1, 2);
      new Run("one short of " + pair, 2, 3, 1).add(0, "axiom " + pair, "axiom -1").due("seal", TrimChecker.NO_CONFLICT);
    }
  }

  /** "repeats count once" */
  private static void countsRepeatsOnce() {
    for (String unit : new String[] {"1 1 0 0", "1 0 1 0", "0 1 0 1", "1 1 1 0", "1 1 1 1"}) {
      new Run("a unit as " + unit, 2, 2, 1).add(0, "axiom " + unit, "axiom 0 -1 0 -1").due("seal", 0).marks(0, 1);
    }
    for (String pair : new String[] {"1 2 2 0", "1 1 2 2", "1 2 1 2", "2 1 1 2"}) {
      new Run("a pair as " + pair, 2, 3, 1).add(0, "axiom " + pair, "axiom -1", "axiom -2 -2").due("seal", 0)
          .marks(0, 1, 2);
      new Run("one short of " + pair, 2, 3, 1).add(0, "axiom " + pair, "axiom -1 -1")
          .due("seal", TrimChecker.NO_CONFLICT);
    }
  }

  /** "v and -v may both be there" */
  private static void takesBothSigns() {
    for (int v = 1; v <= 8; v++) {
      Run run = new Run("both signs of " + v, 8, 4, 4).add(0, "axiom " + v + " -" + v, "lemma -" + v + " " + v);
      run.due("seal", TrimChecker.NO_CONFLICT).due("forward 0", TrimChecker.NO_CONFLICT)
          .due("holds 0 0", 1).due("holds 0 -1", 1);
    }
    new Run("they never bite", 2, 4, 1).add(0, "axiom 1 -1", "axiom 2 -2 1 -1").due("seal", TrimChecker.NO_CONFLICT);
    new Run("nor after a unit", 2, 4, 1).add(0, "axiom 1", "axiom 1 -1 2", "axiom -1 2 -2")
        .due("seal", TrimChecker.NO_CONFLICT);
    new Run("nor beside a conflict", 2, 4, 1).add(0, "axiom 1 -1", "axiom 1", "axiom -1 1 2", "axiom -1")
        .due("seal", 0).marks(1, 3);
  }

  /** "all four 0 gives the empty clause" */
  private static void knowsTheEmptyClause() {
    new Run("as an axiom", 2, 2, 2).add(0, "axiom 1", "axiom 0 0 0 0").due("holds 0 1", 0).due("seal", 0).marks(1);
    new Run("as a lemma", 2, 2, 2).add(0, "axiom 1", "lemma 0 0 0 0").due("seal", 1).marks(1);
  }

  /** "Its pivot is the first nonzero argument in the order a, b, c, d" */
  private static void takesTheFirstLiteralAsPivot() {
    for (String places : new String[] {"p q", "p 0 q", "p 0 0 q", "0 p q", "0 p 0 q", "0 0 p q", "p q q p",
        "p p q q"}) {
      goBackToPivotLemma("lemma " + places.replace('p', '3').replace('q', '4'), TrimChecker.BY_RAT);
      goBackToPivotLemma("lemma " + places.replace('p', '4').replace('q', '3'), TrimChecker.NOT_PASSED);
    }
    // Alone in any place, with either sign: clause 0 stands against 1, clause 1 against -2.
    for (String place : new String[] {"p", "0 p", "0 0 p", "0 0 0 p"}) {
      new Run("pivot met in " + place, 3, 2, 1).add(0, "axiom -1 3", "axiom 2 3", "lemma " + place.replace("p", "1"))
          .due("forward 0", TrimChecker.FAILS_AT);
      new Run("pivot not met in " + place, 3, 2, 1)
          .add(0, "axiom -1 3", "axiom 2 3", "lemma " + place.replace("p", "-1"))
          .due("forward 0", TrimChecker.NO_CONFLICT);
      new Run("negative pivot met in " + place, 3, 2, 1)
          .add(0, "axiom -1 3", "axiom 2 3", "lemma " + place.replace("p", "-2"))
          .due("forward 0", TrimChecker.FAILS_AT);
    }
  }

  /** The lemma has 3 and 4 in some order; clause 4 of the text stands against the pivot 4 alone. */
  private static void goBackToPivotLemma(String lemma, int want) {
    Texts.square(lemma).add(4, "axiom -4 5", "axiom -5", lemma, "lemma -3 1")
        .due("seal", 2).marks(2, 3, 4, 5, 6, 7)
        .due("back", TrimChecker.BY_RUP).marks(0, 1, 2, 3, 4, 5, 6, 7).due("back", want);
  }

  /** "the empty clause has no pivot" */
  private static void findsNoPivotInTheEmptyClause() {
    // Not even where no clause is there to stand against a pivot.
    new Run("no clause at all", 2, 2, 2).due("lemma 0", 0).due("forward 0", TrimChecker.FAILS_AT)
        .due("seal", 1).due("back", TrimChecker.NOT_PASSED);
    new Run("some clauses", 2, 2, 2).add(0, "axiom 1 2", "lemma 0").due("forward 0", TrimChecker.FAILS_AT)
        .due("seal", 1).due("back", TrimChecker.NOT_PASSED);
  }

  /** "line j has the id n+j" */
  private static void numbersLinesAfterAxioms() {
    Run run = Texts.greatest("n = 12");
    for (int line = 0; line < 12; line++) {
      run.due("kind " + (12 + line), line < 8 ? TrimChecker.DELETION : TrimChecker.LEMMA);
    }
    new Run("n = 0", 2, 2, 3).due("lemma 1", 0).due("delete 0", 1).due("lemma 2", 2)
        .due("kind 0", TrimChecker.LEMMA).due("kind 1", TrimChecker.DELETION).due("kind 2", TrimChecker.LEMMA);
  }

  /** "a deletion's id is not a clause" */
  private static void takesNoDeletionForAClause() {
    // The words of the deletion are 1 0 0 0; as a clause they would be a unit against axiom 0.
    new Run("no unit", 2, 3, 3).add(0, "axiom -1", "axiom 2", "delete 1").due("seal", TrimChecker.NO_CONFLICT)
        .due("alive 2", 0).due("marked 2", 0).due("delete 2", TrimChecker.BAD);
    // Those of this one are 0 0 0 0; as a clause they would be empty.
    new Run("not empty", 2, 3, 3).add(0, "axiom 1", "delete 0").due("seal", TrimChecker.NO_CONFLICT)
        .due("forward 0", TrimChecker.NO_CONFLICT);
    // It stands where a lemma stood.
    new Run("no lemma", 2, 3, 3).add(0, "axiom 1", "lemma -1").due("rewind 0", 0).due("delete 0", 1).due("lemma 1", 2)
        .due("seal", TrimChecker.NO_CONFLICT).due("forward 0", TrimChecker.NO_CONFLICT);
  }

  /** "Clauses with equal sets but different ids are different clauses, each with its own mark" */
  private static void marksEqualClausesApart() {
    new Run("axioms", 2, 4, 1).add(0, "axiom 1", "axiom 1", "axiom -1", "axiom 0 -1").due("seal", 0).marks(0, 2);
    new Run("written otherwise", 2, 4, 1).add(0, "axiom 1 2", "axiom 2 0 1 2", "axiom -1", "axiom -2")
        .due("seal", 0).marks(0, 2, 3);
    new Run("an axiom and a lemma", 2, 4, 2).add(0, "axiom 1", "lemma 1", "lemma -1").due("seal", 2).marks(0, 2);
    Texts.square("two lemmas").add(4, "lemma 1 3", "lemma 1 3", "lemma -3").due("seal", 3).marks(2, 3, 4, 6);
  }

  /** "and a deletion concerns only the id it names" */
  private static void deletesEqualClausesApart() {
    new Run("the first of three", 2, 3, 6).add(0, "axiom 1 2", "axiom 2 1", "lemma 1 2", "delete 0").living(1, 2);
    new Run("the second of three", 2, 3, 6).add(0, "axiom 1 2", "axiom 2 1", "lemma 1 2", "delete 1").living(0, 2);
    new Run("the third of three", 2, 3, 6).add(0, "axiom 1 2", "axiom 2 1", "lemma 1 2", "delete 2").living(0, 1);
    Texts.square("the other one serves").add(4, "axiom 2 1", "delete 0", "lemma 1")
        .due("seal", 2).due("back", TrimChecker.BY_RUP).marks(1, 2, 3, 4, 6)
        .due("back", TrimChecker.REVIVED).marks(1, 2, 3, 4, 6).due("forward 0", 2).due("forward 2", 2);
  }
}
