/** The term "keeping". Above each test stands the sentence that it tests. */
public final class KeepingTest {
  public static void main(String[] args) {
    goesFromTheGreatestIdDown();
    takesOutForGood();
    reachesTheFirstAndTheLastId();
    needsEveryObligation();
    leavesMarkedClausesIn();
    marksNothingWithoutObligations();
    neverRemovesAMark();
    marksNothingOutside();
    Run.end();
  }

  /** "from the greatest id down to the least" */
  private static void goesFromTheGreatestIdDown() {
    new Run("the later pair goes", 2, 4, 1).add(0, "axiom 1", "axiom -1", "axiom 2", "axiom -2")
        .due("seal", 0).marks(0, 1);
    new Run("of equal clauses the least id stays", 2, 4, 1).add(0, "axiom 1", "axiom 1", "axiom -1", "axiom -1")
        .due("seal", 0).marks(0, 2);
    new Run("the empty clause goes first", 2, 4, 1).add(0, "axiom 1", "axiom -1", "axiom 0").due("seal", 0).marks(0, 1);
    new Run("the empty clause stays alone", 2, 4, 1).add(0, "axiom 0", "axiom 1", "axiom -1").due("seal", 0).marks(0);
    // Clauses 2 and 3 alone would do, but 3 is taken out first.
    new Run("not the fewest", 3, 5, 1).add(0, "axiom 1", "axiom -1 2", "axiom -2", "axiom 2").due("seal", 0)
        .marks(0, 1, 2);
  }

  /** "take it out of R for good. At the end every clause in R is marked." */
  private static void takesOutForGood() {
    // Each of 1, 3 and 5 could go alone, but 1 is needed once 3 and 5 are gone.
    new Run("three of a kind", 2, 6, 1).add(0, "axiom -1", "axiom 1", "axiom 2 -2", "axiom 1 1", "axiom 2", "axiom 0 1")
        .due("seal", 0).marks(0, 1);
    Texts.square("two supports").add(4, "axiom 1 3", "axiom 1 -3", "lemma 1").due("seal", 1).marks(2, 3, 6)
        .due("back", TrimChecker.BY_RUP).marks(0, 1, 2, 3, 6);
  }

  /** "For every id of S": 0 and 23 are the edges. */
  private static void reachesTheFirstAndTheLastId() {
    Texts.greatestAccepted("needed").marks(0, 1, 2, 3, 20, 21, 22, 23);
    // 0 and the lemmas 12 to 22 are not needed, and the last line gives the conflict together with 10 and 11.
    Run run = new Run("not needed", 8, 12, 12).add(0, "axiom 7 8");
    for (int id = 1; id < 10; id++) {
      run.due("axiom 1 " + (id % 2 == 0 ? "-2" : "2"), id);
    }
    run.add(10, "axiom -1 2", "axiom -1 -2");
    for (int id = 12; id < 23; id++) {
      run.due("lemma 7 8 1", id);
    }
    run.due("lemma 1", 23).due("seal", 12).marks(10, 11, 23).due("back", TrimChecker.BY_RUP).marks(1, 2, 10, 11, 23);
  }

  /** "if R without that clause still refutes every obligation" */
  private static void needsEveryObligation() {
    // Clauses 5 and 6 are not needed: 5 is a copy of 1, and 6 only gives an obligation that refutes itself.
    new Run("one obligation needs clauses", 4, 12, 12)
        .add(0, "axiom -3 1", "axiom 1 2", "axiom 1 -2", "axiom -1 2", "axiom -1 -2", "axiom 2 1", "axiom -3 4 -4",
            "lemma 3")
        .due("seal", 1).marks(0, 3, 4, 7)
        .due("back", TrimChecker.BY_RAT).marks(0, 1, 2, 3, 4, 7).state(TrimChecker.ACCEPTED, 0, 1);
    new Run("two obligations need clauses", 4, 12, 12)
        .add(0, "axiom -3 1", "axiom -3 2", "axiom 1 4", "axiom 1 -4", "axiom 2 4", "axiom 2 -4",
            "axiom -1 -2", "lemma 3")
        .due("seal", 1).marks(0, 1, 6, 7)
        .due("back", TrimChecker.BY_RAT).marks(0, 1, 2, 3, 4, 5, 6, 7);
    // Clause 4 is a partner: its obligation counts, but it is not marked itself.
    Texts.square("an unmarked partner").add(4, "axiom -3 5", "axiom 5 6", "axiom 5 -6", "lemma 3", "lemma -3 1")
        .due("seal", 2).marks(2, 3, 7, 8).due("back", TrimChecker.BY_RUP).marks(0, 1, 2, 3, 7, 8)
        .due("back", TrimChecker.BY_RAT).marks(0, 1, 2, 3, 5, 6, 7, 8);
  }

  /** "Marked clauses of S always stay in R." */
  private static void leavesMarkedClausesIn() {
    // Clauses 0 and 3 are equal; 3 got its mark while 0 was deleted, so 0 is not needed once it is back.
    new Run("marked ones stay", 6, 12, 12)
        .add(0, "axiom -1 -2", "axiom 2 5", "axiom -5 2", "axiom -1 -2", "axiom 1 6", "axiom 1 -6")
        .add(6, "lemma -1 5", "delete 0", "delete 1", "lemma 1")
        .due("seal", 4).marks(2, 3, 6, 9)
        .due("back", TrimChecker.BY_RUP).marks(2, 3, 4, 5, 6, 9)
        .due("back", TrimChecker.REVIVED).due("back", TrimChecker.REVIVED)
        .due("back", TrimChecker.BY_RUP).marks(1, 2, 3, 4, 5, 6, 9)
        .state(TrimChecker.ACCEPTED, 0, 4);
  }

  /** "With no obligations all others go, so no new mark is made." */
  private static void marksNothingWithoutObligations() {
    Texts.withRat("no obligations").due("seal", 3).marks(2, 3, 6, 7)
        .due("back", TrimChecker.BY_RUP).marks(0, 1, 2, 3, 6, 7)
        .due("back", TrimChecker.BY_RAT).marks(0, 1, 2, 3, 6, 7);
    // An obligation that refutes itself needs no clause either.
    Texts.square("an idle obligation").add(4, "axiom -3 5 -5", "lemma 3", "lemma -3 1").due("seal", 2)
        .due("back", TrimChecker.BY_RUP).marks(0, 1, 2, 3, 5, 6)
        .due("back", TrimChecker.BY_RAT).marks(0, 1, 2, 3, 5, 6);
  }

  /** "Keeping never removes a mark" */
  private static void neverRemovesAMark() {
    // Lemma 5 passes by 0 and 1 alone: 2 and 3 are marked already and stay so, and so does 6, which is not in S.
    Texts.square("marks stay").add(4, "axiom 7 8", "lemma 1 4", "lemma -4").due("seal", 2).marks(2, 3, 5, 6)
        .due("back", TrimChecker.BY_RAT).marks(0, 1, 2, 3, 5, 6)
        .due("back", TrimChecker.BY_RUP).marks(0, 1, 2, 3, 5, 6);
  }

  /** "and it marks nothing outside S" */
  private static void marksNothingOutside() {
    new Run("a deleted clause", 2, 3, 3).add(0, "axiom -1 2", "axiom -1 2", "axiom -1 -2", "delete 0", "lemma 1")
        .due("seal", 2).marks(1, 2, 4);
    Texts.square("a later line").add(4, "lemma 1", "lemma 0", "lemma -1").due("seal", 1).marks(2, 3, 4)
        .due("back", TrimChecker.BY_RUP).marks(0, 1, 2, 3, 4);
    Texts.square("a clause deleted before the lemma").add(4, "axiom 1 2", "delete 0", "lemma 1").due("seal", 2)
        .due("back", TrimChecker.BY_RUP).marks(1, 2, 3, 4, 6);
  }
}
