/** The term "passing". Above each test stands the sentence that it tests. */
public final class PassingTest {
  public static void main(String[] args) {
    passesByRup();
    takesRupBeforeRat();
    doesNotPassEmpty();
    passesByRatWithoutObligations();
    meetsEveryPartner();
    meetsNoOtherClause();
    meetsPartnersWithBothSigns();
    unitesLemmaAndPartner();
    needsEveryObligation();
    takesAsManyAsThereAre();
    Run.end();
  }

  /** "If S refutes C, it passes BY_RUP, and its only obligation is the set C." */
  private static void passesByRup() {
    Texts.square("the pivot has partners").add(4, "lemma 1").due("seal", 1)
        .due("back", TrimChecker.BY_RUP).marks(0, 1, 2, 3, 4);
    // 6 and 7 refute {1}. The sets {1, 5} and {1, -5}, which RAT would ask for, would need 0 to 3 instead.
    new Run("its only obligation", 8, 12, 12)
        .add(0, "axiom 1 5 7", "axiom 1 5 -7", "axiom 1 -5 7", "axiom 1 -5 -7", "axiom -1 5", "axiom -1 -5")
        .add(6, "axiom 1 8", "axiom 1 -8", "lemma 1")
        .due("seal", 1).marks(4, 5, 8).due("back", TrimChecker.BY_RUP).marks(4, 5, 6, 7, 8);
  }

  /** "Otherwise ...": what passes by RUP does not pass by RAT, though its pivot has no partner. */
  private static void takesRupBeforeRat() {
    Texts.square("no partner").add(4, "axiom 3 5", "axiom 3 -5", "lemma 3", "lemma -3 1").due("seal", 2)
        .due("back", TrimChecker.BY_RUP).marks(0, 1, 2, 3, 6, 7)
        .due("back", TrimChecker.BY_RUP).marks(0, 1, 2, 3, 4, 5, 6, 7);
  }

  /** "Otherwise, if C is empty, it does not pass." */
  private static void doesNotPassEmpty() {
    new Run("no clause", 2, 2, 2).due("lemma 0", 0).due("forward 0", TrimChecker.FAILS_AT);
    Texts.square("no unit").due("lemma 0", 4).due("forward 0", TrimChecker.FAILS_AT)
        .due("seal", 1).due("back", TrimChecker.NOT_PASSED);
  }

  /** "If S refutes every obligation (perhaps there is none), it passes BY_RAT" */
  private static void passesByRatWithoutObligations() {
    new Run("no clause", 8, 1, 4).add(0, "lemma 1", "lemma -8", "lemma 2 3", "lemma -4 1")
        .due("forward 0", TrimChecker.NO_CONFLICT);
    Texts.withRat("back").due("seal", 3).due("back", TrimChecker.BY_RUP).due("back", TrimChecker.BY_RAT);
  }

  /** "one for each clause D of S that contains -p": in whatever place, with whatever sign, of whatever variable */
  private static void meetsEveryPartner() {
    for (int v = 1; v <= 8; v++) {
      int other = 1 + v % 8;
      for (String place : new String[] {"p q", "q p", "0 p q", "q 0 p", "0 q 0 p", "p p q q", "q p q p"}) {
        for (int pivot : new int[] {v, -v}) {
          String partner = place.replace("p", String.valueOf(-pivot)).replace("q", String.valueOf(other));
          new Run("partner " + partner + " of " + pivot, 8, 2, 2).add(0, "axiom " + partner, "lemma " + pivot)
              .due("forward 0", TrimChecker.FAILS_AT);
        }
      }
    }
    new Run("a unit", 2, 2, 2).add(0, "axiom -1", "lemma 1 2").due("forward 0", TrimChecker.FAILS_AT);
    new Run("a lemma", 2, 2, 2).add(0, "lemma -1 2", "lemma 1").due("forward 0", TrimChecker.FAILS_AT + 1);
    new Run("not itself", 2, 2, 2).add(0, "lemma 1").due("forward 0", TrimChecker.NO_CONFLICT);
    new Run("no deleted clause", 2, 2, 2).add(0, "axiom -1 2", "delete 0", "lemma 1")
        .due("forward 0", TrimChecker.NO_CONFLICT);
    new Run("no later lemma", 2, 2, 2).add(0, "lemma 1", "lemma -1 2").due("forward 0", TrimChecker.FAILS_AT + 1);
  }

  /** "that contains -p": clauses with p or without the variable give no obligation, nor do other literals of C. */
  private static void meetsNoOtherClause() {
    for (int pivot : new int[] {1, -1, 8, -8}) {
      new Run("the same sign, " + pivot, 8, 2, 2).add(0, "axiom " + pivot + " 2", "axiom 2 " + pivot, "lemma " + pivot)
          .due("forward 0", TrimChecker.NO_CONFLICT);
      new Run("another variable, " + pivot, 8, 2, 2).add(0, "axiom 2 3", "axiom -2 -3", "lemma " + pivot)
          .due("forward 0", TrimChecker.NO_CONFLICT);
      new Run("another literal of C, " + pivot, 8, 2, 2).add(0, "axiom -2 3", "lemma " + pivot + " 2")
          .due("forward 0", TrimChecker.NO_CONFLICT);
    }
  }

  /** "D without -p": if D has p too, p stays, and the obligation must be refuted like any other. */
  private static void meetsPartnersWithBothSigns() {
    new Run("not refuted", 3, 3, 2).add(0, "axiom 1 -1 2", "lemma 1").due("forward 0", TrimChecker.FAILS_AT);
    new Run("not refuted either", 3, 3, 2).add(0, "axiom -1 1", "lemma 1").due("forward 0", TrimChecker.FAILS_AT);
    new Run("refuted", 3, 3, 2).add(0, "axiom 1 -1 2", "axiom 1 2 3", "axiom 1 2 -3", "lemma 1")
        .due("forward 0", TrimChecker.NO_CONFLICT);
  }

  /** "the sets C united with (D without -p)" */
  private static void unitesLemmaAndPartner() {
    // With the pivot in it the obligation {3, 5} needs no partner to be refuted, so clause 4 goes.
    Texts.square("the pivot").add(4, "axiom -3 5", "axiom 3 5 6", "axiom 3 5 -6", "lemma 3", "lemma -3 1").due("seal", 2)
        .due("back", TrimChecker.BY_RUP).marks(0, 1, 2, 3, 7, 8)
        .due("back", TrimChecker.BY_RAT).marks(0, 1, 2, 3, 5, 6, 7, 8);
    new Run("neither refutes it", 3, 3, 2).add(0, "axiom -1 2", "axiom 2 3", "lemma 1")
        .due("forward 0", TrimChecker.FAILS_AT);
    new Run("the lemma's other literals", 3, 3, 2).add(0, "axiom -1 2", "axiom 2 3", "lemma 1 3")
        .due("forward 0", TrimChecker.NO_CONFLICT);
    new Run("the partner's other literals", 4, 3, 2).add(0, "axiom -1 2 4", "axiom 2 4 3", "axiom 2 4 -3", "lemma 1")
        .due("forward 0", TrimChecker.NO_CONFLICT);
    new Run("not the partner's -p", 3, 3, 2).add(0, "axiom -1 2", "lemma 1").due("forward 0", TrimChecker.FAILS_AT);
    new Run("other partners lend nothing", 4, 3, 2).add(0, "axiom -1 2", "axiom -1 3", "axiom 2 3", "lemma 1")
        .due("forward 0", TrimChecker.FAILS_AT);
  }

  /** "If S refutes every obligation ..., it passes BY_RAT; else it does not pass." */
  private static void needsEveryObligation() {
    // The obligation of "-1 2 -2" is always refuted, that of "-1 3" never.
    new Run("the first is not refuted", 3, 3, 2).add(0, "axiom -1 3", "axiom -1 2 -2", "axiom -1 2 -2", "lemma 1")
        .due("forward 0", TrimChecker.FAILS_AT);
    new Run("the second is not refuted", 3, 3, 2).add(0, "axiom -1 2 -2", "axiom -1 3", "axiom -1 2 -2", "lemma 1")
        .due("forward 0", TrimChecker.FAILS_AT);
    new Run("the last is not refuted", 3, 3, 2).add(0, "axiom -1 2 -2", "axiom -1 2 -2", "axiom -1 3", "lemma 1")
        .due("forward 0", TrimChecker.FAILS_AT);
    new Run("all are refuted", 3, 3, 2).add(0, "axiom -1 2 -2", "axiom -1 2 -2", "axiom -1 3 -3", "lemma 1")
        .due("forward 0", TrimChecker.NO_CONFLICT);
    new Run("back", 4, 12, 12)
        .add(0, "axiom -3 1", "axiom 1 2", "axiom 1 -2", "axiom -1 2", "axiom -1 -2", "lemma 3")
        .due("seal", 1).due("back", TrimChecker.BY_RAT).state(TrimChecker.ACCEPTED, 0, 1);
    new Run("back with one more", 4, 12, 12)
        .add(0, "axiom -3 1", "axiom 1 2", "axiom 1 -2", "axiom -1 2", "axiom -1 -2", "axiom -3 4", "lemma 3")
        .due("seal", 1).due("back", TrimChecker.NOT_PASSED).state(TrimChecker.REJECTED, 1, 1);
  }

  /** 23 clauses are the most that can stand against a lemma; here the one of this id is not refuted, or none. */
  private static void takesAsManyAsThereAre() {
    for (int stranger = -1; stranger < 23; stranger++) {
      Run run = new Run("stranger " + stranger, 4, 12, 12);
      for (int id = 0; id < 23; id++) {
        run.due((id < 12 ? "axiom" : "lemma") + (id == stranger ? " -3 4" : " -3 1 -1"), id);
      }
      run.due("lemma 3", 23).due("forward 0", stranger < 0 ? TrimChecker.NO_CONFLICT : TrimChecker.FAILS_AT + 11);
    }
  }
}
