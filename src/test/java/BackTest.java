/** Promise 6. Above each test stands the sentence that it tests. */
public final class BackTest {
  public static void main(String[] args) {
    refusesOtherPhases();
    goesBackOverDeletions();
    skipsUnmarkedLemmas();
    skipsWhatDoesNotPass();
    takesClausesAliveBeforeTheLine();
    takesUnmarkedClausesToo();
    rejectsAndChangesNothingElse();
    keepsForAllObligations();
    leavesTheLemmaMarked();
    acceptsAtLineZero();
    goesOnBeforeLineZero();
    leavesTextAndPoint();
    Run.end();
  }

  /** "if the phase is not CHECKING, the answer is WRONG_PHASE and nothing changes" */
  private static void refusesOtherPhases() {
    new Run("empty text", 1, 1, 1).same("back", TrimChecker.WRONG_PHASE);
    Texts.withRat("building").same("back", TrimChecker.WRONG_PHASE);
    Texts.square("after NO_CONFLICT").due("lemma 5", 4).due("seal", TrimChecker.NO_CONFLICT)
        .same("back", TrimChecker.WRONG_PHASE);
    Texts.accepted("accepted").same("back", TrimChecker.WRONG_PHASE);
    new Run("accepted at once", 1, 1, 1).add(0, "axiom 0", "lemma 1").due("seal", 0)
        .same("back", TrimChecker.WRONG_PHASE);
    Texts.rejected("rejected").same("back", TrimChecker.WRONG_PHASE);
    Texts.checking("rewound").due("rewind 99", 6).same("back", TrimChecker.WRONG_PHASE);
  }

  /** "Line j is a deletion: the answer is REVIVED. No mark changes." */
  private static void goesBackOverDeletions() {
    Texts.checking("of an axiom, then of a lemma").due("back", TrimChecker.BY_RUP)
        .changesOnly("back", TrimChecker.REVIVED, "cursor", "alive 0").living(0, 1, 2, 3, 4)
        .changesOnly("back", TrimChecker.REVIVED, "cursor", "alive 5").living(0, 1, 2, 3, 4, 5);
    Run run = Texts.greatest("eight of them").due("seal", 12).due("back", TrimChecker.BY_RUP)
        .due("back", TrimChecker.BY_RAT).due("back", TrimChecker.BY_RAT).due("back", TrimChecker.BY_RAT);
    for (int line = 7; line > 0; line--) {
      run.changesOnly("back", TrimChecker.REVIVED, "cursor", "alive " + (line + 4))
          .state(TrimChecker.CHECKING, line, 12);
    }
  }

  /** "Line j is an unmarked lemma: the answer is SKIPPED ... No mark changes." */
  private static void skipsUnmarkedLemmas() {
    Texts.checking("not needed").due("back", TrimChecker.BY_RUP).due("back", TrimChecker.REVIVED)
        .due("back", TrimChecker.REVIVED).changesOnly("back", TrimChecker.SKIPPED, "cursor", "alive 5")
        .living(0, 1, 2, 3, 4);
    Texts.square("a copy of a needed one").add(4, "lemma 1 3", "lemma 1 3", "lemma -3").due("seal", 3).marks(2, 3, 4, 6)
        .due("back", TrimChecker.BY_RAT).changesOnly("back", TrimChecker.SKIPPED, "cursor", "alive 5");
  }

  /** "(it need not pass)" */
  private static void skipsWhatDoesNotPass() {
    Texts.square("does not pass").add(4, "axiom -5 6", "lemma 5", "lemma 1").due("forward 0", TrimChecker.FAILS_AT)
        .due("seal", 2).due("back", TrimChecker.BY_RUP).due("back", TrimChecker.SKIPPED)
        .state(TrimChecker.ACCEPTED, 0, 2).marks(0, 1, 2, 3, 6);
  }

  /** "let S be all clauses alive after j lines" */
  private static void takesClausesAliveBeforeTheLine() {
    Texts.square("deleted before the lemma").add(4, "delete 0", "lemma 1").due("seal", 2)
        .due("back", TrimChecker.NOT_PASSED).state(TrimChecker.REJECTED, 2, 2);
    Texts.square("deleted before the lemma, needed by an obligation").add(4, "lemma 1 3", "delete 0", "lemma -3")
        .due("seal", 3)
        .due("back", TrimChecker.NOT_PASSED);
    Texts.checking("revived for an earlier lemma").due("back", TrimChecker.BY_RUP).due("marked 0", 0)
        .due("back", TrimChecker.REVIVED).due("back", TrimChecker.REVIVED).due("back", TrimChecker.SKIPPED)
        .due("back", TrimChecker.BY_RUP).due("marked 0", 1);
    new Run("not the lemma itself", 1, 1, 2).add(0, "axiom -1", "lemma 1").due("seal", 1)
        .due("back", TrimChecker.NOT_PASSED);
    new Run("no later line", 2, 2, 3).add(0, "axiom -1", "lemma 1", "lemma 1").due("seal", 1)
        .due("back", TrimChecker.NOT_PASSED);
  }

  /** "marked or not" */
  private static void takesUnmarkedClausesToo() {
    Texts.square("an unmarked axiom stands against it").add(4, "axiom -3 4", "lemma 3", "lemma -3 1")
        .due("seal", 2).due("back", TrimChecker.BY_RUP).due("marked 4", 0).due("back", TrimChecker.NOT_PASSED);
    Texts.square("an unmarked lemma stands against it").add(4, "lemma -3 4", "lemma 3", "lemma -3 1")
        .due("seal", 3).due("back", TrimChecker.BY_RUP).due("marked 4", 0).due("back", TrimChecker.NOT_PASSED);
    Texts.square("unmarked axioms support it").add(4, "lemma 1").due("seal", 1).marks(2, 3, 4)
        .due("back", TrimChecker.BY_RUP).marks(0, 1, 2, 3, 4);
    Texts.checking("an unmarked lemma supports it").due("marked 4", 0).due("back", TrimChecker.BY_RUP)
        .due("marked 4", 1);
  }

  /** "the phase becomes REJECTED, nothing else changes (the cursor stays j+1) and NOT_PASSED is answered" */
  private static void rejectsAndChangesNothingElse() {
    new Run("at line 0", 1, 1, 2).add(0, "axiom -1", "lemma 1").due("seal", 1).marks(0, 1)
        .changesOnly("back", TrimChecker.NOT_PASSED, "phase").state(TrimChecker.REJECTED, 1, 1).marks(0, 1)
        .living(0, 1);
    new Run("at line 1, an empty lemma", 2, 3, 4).add(0, "axiom 1 2", "lemma 2 -1", "lemma 0", "lemma 1").due("seal", 2)
        .changesOnly("back", TrimChecker.NOT_PASSED, "phase").state(TrimChecker.REJECTED, 2, 2).marks(2)
        .living(0, 1, 2);
    Texts.greatest("at line 11").due("rewind 11", 11).due("lemma 0", 23).due("seal", 12).marks(23)
        .changesOnly("back", TrimChecker.NOT_PASSED, "phase").state(TrimChecker.REJECTED, 12, 12).marks(23);
    Texts.square("at line 1, obligations not refuted").add(4, "axiom -3 4", "lemma 5", "lemma 3", "lemma -3 1")
        .due("seal", 3)
        .due("back", TrimChecker.BY_RUP).changesOnly("back", TrimChecker.NOT_PASSED, "phase")
        .state(TrimChecker.REJECTED, 2, 3).marks(0, 1, 2, 3, 6, 7).living(0, 1, 2, 3, 4, 5, 6);
  }

  /** "keeping is done once for S and the list of all its obligations, and BY_RUP or BY_RAT is answered as it passed" */
  private static void keepsForAllObligations() {
    Texts.square("by RUP").due("lemma 1", 4).due("seal", 1)
        .due("back", TrimChecker.BY_RUP).marks(0, 1, 2, 3, 4);
    // One obligation needs 2 and 3, the other 4 and 5.
    new Run("by RAT", 4, 12, 12)
        .add(0, "axiom -3 1", "axiom -3 2", "axiom 1 4", "axiom 1 -4", "axiom 2 4", "axiom 2 -4", "axiom -1 -2",
            "lemma 3")
        .due("seal", 1).marks(0, 1, 6, 7).due("back", TrimChecker.BY_RAT).marks(0, 1, 2, 3, 4, 5, 6, 7);
    // The obligations {3, 1} and {3, 2}. For {3, 1} alone clause 6 would go and 5 stay; but {3, 2} needs 6,
    // and with 6 and 3 clause 5 can go. So keeping for one after the other would mark 5.
    for (String[] partners : new String[][] {{"axiom -3 1", "axiom -3 2"}, {"axiom -3 2", "axiom -3 1"}}) {
      new Run("by RAT, all at once", 5, 12, 12).add(0, partners)
          .add(2, "axiom -1 -2", "axiom 1 -5", "axiom 1 -4", "axiom 1 4", "axiom 4 5", "axiom 2 -4", "axiom 2 -5",
              "lemma 3")
          .due("seal", 1).marks(0, 1, 2, 9)
          .due("back", TrimChecker.BY_RAT).marks(0, 1, 2, 3, 4, 6, 7, 8, 9);
    }
    Texts.withRat("by RAT without obligations").due("seal", 3).due("back", TrimChecker.BY_RUP)
        .due("back", TrimChecker.BY_RAT).marks(0, 1, 2, 3, 6, 7);
  }

  /** "The lemma itself stays marked." */
  private static void leavesTheLemmaMarked() {
    Texts.accepted("by RUP").due("marked 8", 1).due("marked 4", 1);
    Texts.greatestAccepted("by RAT").due("marked 20", 1).due("marked 21", 1).due("marked 22", 1).due("marked 23", 1);
  }

  /** "the cursor becomes j, and then, if j is 0, the phase becomes ACCEPTED": after every answer but NOT_PASSED */
  private static void acceptsAtLineZero() {
    Texts.withRat("REVIVED").due("seal", 3).due("back", TrimChecker.BY_RUP).due("back", TrimChecker.BY_RAT)
        .state(TrimChecker.CHECKING, 1, 3).due("back", TrimChecker.REVIVED).state(TrimChecker.ACCEPTED, 0, 3);
    Texts.square("SKIPPED").add(4, "lemma 5", "lemma 1").due("seal", 2).due("back", TrimChecker.BY_RUP)
        .state(TrimChecker.CHECKING, 1, 2).due("back", TrimChecker.SKIPPED).state(TrimChecker.ACCEPTED, 0, 2);
    Texts.square("BY_RUP").due("lemma 1", 4).due("seal", 1)
        .state(TrimChecker.CHECKING, 1, 1).due("back", TrimChecker.BY_RUP).state(TrimChecker.ACCEPTED, 0, 1);
    Texts.square("BY_RAT").add(4, "lemma 3", "lemma -3 1").due("seal", 2).due("back", TrimChecker.BY_RUP)
        .state(TrimChecker.CHECKING, 1, 2).due("back", TrimChecker.BY_RAT).state(TrimChecker.ACCEPTED, 0, 2);
  }

  /** "if j is not 0 it stays CHECKING" */
  private static void goesOnBeforeLineZero() {
    Texts.checking("three answers").due("back", TrimChecker.BY_RUP).state(TrimChecker.CHECKING, 4, 5)
        .due("back", TrimChecker.REVIVED).state(TrimChecker.CHECKING, 3, 5)
        .due("back", TrimChecker.REVIVED).state(TrimChecker.CHECKING, 2, 5)
        .due("back", TrimChecker.SKIPPED).state(TrimChecker.CHECKING, 1, 5);
    Texts.greatest("BY_RAT").due("seal", 12).due("back", TrimChecker.BY_RUP).state(TrimChecker.CHECKING, 11, 12)
        .due("back", TrimChecker.BY_RAT).state(TrimChecker.CHECKING, 10, 12);
  }

  /** "The text and the conflict point never change here." */
  private static void leavesTextAndPoint() {
    Texts.withRat("RUP, RAT, REVIVED").due("seal", 3)
        .changesOnly("back", TrimChecker.BY_RUP, "cursor", "alive 7", "marked", "holds 2")
        .changesOnly("back", TrimChecker.BY_RAT, "cursor", "alive 6")
        .changesOnly("back", TrimChecker.REVIVED, "phase", "cursor", "alive 4", "trimmed", "forward 1", "forward 2");
    Texts.accepted("lines behind the point").due("kind 9", TrimChecker.LEMMA).due("conflict", 5).due("rewind 99", 6);
  }
}
