/** Promise 7. Above each test stands the sentence that it tests. */
public final class ForwardTest {
  public static void main(String[] args) {
    refusesStrangeViewsFirst();
    refusesTrimmedViewsInOtherPhases();
    takesTheWholeInAnyPhase();
    startsFromTheAxioms();
    answersTheConflict();
    looksForTheConflictBeforeTheLine();
    answersNoConflictAtTheEnd();
    failsAtALine();
    addsWhatPasses();
    passesOverAbsentLemmas();
    takesDeletedClausesOut();
    passesOverDeletionsOfAbsentClauses();
    ignoresCursorAndConflictPoint();
    Run.end();
  }

  /** "In this order: 1. view is not WHOLE, TRIMMED or CORE: BAD." */
  private static void refusesStrangeViewsFirst() {
    for (Run run : Texts.inEveryPhase()) {
      for (int view : new int[] {-1, -2, 3, 4, 32, 33, 256, 257, Integer.MIN_VALUE, Integer.MIN_VALUE + 1,
          Integer.MAX_VALUE}) {
        run.same("forward " + view, TrimChecker.BAD);
      }
    }
    new Run("empty text", 1, 1, 1).same("forward 3", TrimChecker.BAD).same("forward -1", TrimChecker.BAD);
  }

  /** "2. view is not WHOLE and the phase is not ACCEPTED: WRONG_PHASE." */
  private static void refusesTrimmedViewsInOtherPhases() {
    for (Run run : new Run[] {
      new Run("empty text", 1, 1, 1), Texts.withRat("building"), Texts.checking("checking"),
      Texts.checking("going back").due("back", TrimChecker.BY_RUP), Texts.rejected("rejected"),
      Texts.accepted("rewound").due("rewind 99", 6)
    }) {
      run.same("forward 1", TrimChecker.WRONG_PHASE).same("forward 2", TrimChecker.WRONG_PHASE);
    }
    Texts.accepted("accepted").same("forward 1", 5).same("forward 2", 5);
  }

  /** "WHOLE in any phase" */
  private static void takesTheWholeInAnyPhase() {
    int[] wanted = {5, 5, 5, TrimChecker.FAILS_AT + 1};
    Run[] runs = Texts.inEveryPhase();
    for (int i = 0; i < runs.length; i++) {
      runs[i].same("forward 0", wanted[i]);
    }
  }

  /**
   * "let T be the axioms present in the view": "A clause is present in WHOLE always; in TRIMMED if it is an axiom or a
   * marked lemma; in CORE if it is marked (axiom or lemma)."
   */
  private static void startsFromTheAxioms() {
    new Run("all axioms", 2, 3, 3).add(0, "axiom 1", "axiom 2", "axiom -1 -2").same("forward 0", 0);
    // Only 0 and 1 are marked: TRIMMED has all axioms, CORE has these two.
    new Run("marked axioms", 2, 4, 3).add(0, "axiom 1", "axiom -1", "axiom 2", "axiom -2").due("seal", 0).marks(0, 1)
        .same("forward 0", 0).same("forward 1", 0).same("forward 2", 0);
    // Deleted axioms take part until their deletion.
    new Run("deleted later", 1, 2, 3).add(0, "axiom 1", "axiom -1", "delete 0", "delete 1").same("forward 0", 0);
  }

  /** "If T refutes the empty set of literals, the answer is j." */
  private static void answersTheConflict() {
    new Run("0, no line", 2, 2, 2).add(0, "axiom 0").same("forward 0", 0);
    new Run("0, with lines", 2, 2, 2).add(0, "axiom 0", "lemma 1", "lemma 2").same("forward 0", 0);
    for (int point = 1; point <= 12; point++) {
      Run run = Texts.square("point " + point);
      for (int line = 0; line < 12; line++) {
        run.due(line == point - 1 ? "lemma 1" : "lemma 5", 4 + line);
      }
      run.same("forward 0", point);
    }
    Texts.greatestAccepted("twelve lines").same("forward 0", 12).same("forward 1", 12).same("forward 2", 12);
  }

  /** "do the following in this order": the conflict comes before the end and before a line that fails. */
  private static void looksForTheConflictBeforeTheLine() {
    Texts.square("a bad line behind").add(4, "lemma 1", "lemma 0").same("forward 0", 1);
    new Run("a bad line at once", 2, 2, 2).add(0, "axiom 1", "axiom -1", "lemma 0").same("forward 0", 0);
    Texts.square("a deletion behind").add(4, "lemma 1", "delete 4").same("forward 0", 1);
    Texts.square("the end").add(4, "lemma 1").same("forward 0", 1);
    // A failing line before the conflict is answered instead of it.
    Texts.square("a bad line before").add(4, "axiom -5 6", "lemma 5", "lemma 1")
        .same("forward 0", TrimChecker.FAILS_AT);
  }

  /** "If j is the number of lines, the answer is NO_CONFLICT." */
  private static void answersNoConflictAtTheEnd() {
    new Run("empty text", 2, 2, 2).same("forward 0", TrimChecker.NO_CONFLICT);
    Texts.square("no line").same("forward 0", TrimChecker.NO_CONFLICT);
    Texts.square("one line").due("lemma 5", 4).same("forward 0", TrimChecker.NO_CONFLICT);
    Run run = Texts.square("twelve lines");
    for (int line = 0; line < 12; line++) {
      run.due("lemma 5", 4 + line);
    }
    run.same("forward 0", TrimChecker.NO_CONFLICT);
  }

  /** "if it does not pass by T, the answer is FAILS_AT + j" */
  private static void failsAtALine() {
    for (int line = 0; line < 12; line++) {
      Run run = Texts.square("line " + line);
      for (int before = 0; before < line; before++) {
        run.due("lemma 5", 4 + before);
      }
      run.due("lemma 0", 4 + line).same("forward 0", TrimChecker.FAILS_AT + line);
    }
    new Run("the first of two", 4, 2, 4).add(0, "axiom 1 2", "lemma 3", "delete 1", "lemma 0", "lemma 0")
        .same("forward 0", TrimChecker.FAILS_AT + 2);
    new Run("by an obligation", 3, 2, 2).add(0, "axiom -1 2", "lemma 1 3").same("forward 0", TrimChecker.FAILS_AT);
  }

  /** "else it is added to T" */
  private static void addsWhatPasses() {
    new Run("it supports the next", 3, 2, 3).add(0, "axiom -1 2", "axiom -2 1", "lemma 3 1", "lemma 2 3")
        .same("forward 0", TrimChecker.NO_CONFLICT);
    new Run("without support", 3, 2, 3).add(0, "axiom -1 2", "axiom -2 1", "lemma 2 3")
        .same("forward 0", TrimChecker.FAILS_AT);
    new Run("it stands against the next", 3, 2, 3).add(0, "lemma 3 1", "lemma -3")
        .same("forward 0", TrimChecker.FAILS_AT + 1);
  }

  /** "If line j is a lemma not present: no effect." */
  private static void passesOverAbsentLemmas() {
    // Lemma 5 does not pass, but it is marked in neither of the trimmed views.
    Texts.square("it would not pass").add(4, "axiom -5 6", "lemma 5", "lemma 1")
        .due("seal", 2).due("back", TrimChecker.BY_RUP).due("back", TrimChecker.SKIPPED)
        .same("forward 0", TrimChecker.FAILS_AT).same("forward 1", 2).same("forward 2", 2);
  }

  /** "If line j is a deletion: its target is taken out of T if it is there" */
  private static void takesDeletedClausesOut() {
    new Run("what stood against a lemma", 3, 2, 3).add(0, "lemma 3 1", "delete 0", "lemma -3")
        .same("forward 0", TrimChecker.NO_CONFLICT);
    Texts.square("what supported a lemma").add(4, "delete 0", "lemma 1").same("forward 0", TrimChecker.FAILS_AT + 1);
    Texts.square("what gave the conflict")
        .add(4, "lemma -1 2 5 6", "lemma -1 2 5 -6", "lemma -1 2 -5 6", "lemma -1 2 -5 -6")
        .add(8, "delete 2", "lemma 1", "lemma 5").same("forward 0", 7);
    // Axiom 4 is not marked, but present in TRIMMED: were it not taken out, it would stand against lemma 6.
    Texts.withRat("in a trimmed view").due("seal", 3).due("back", TrimChecker.BY_RUP).due("back", TrimChecker.BY_RAT)
        .due("back", TrimChecker.REVIVED).same("forward 0", 3).same("forward 1", 3);
  }

  /** "and otherwise there is no effect" */
  private static void passesOverDeletionsOfAbsentClauses() {
    Texts.accepted("of an unmarked lemma").due("marked 5", 0).words(6, 5, 0, 0, 0).same("forward 1", 5)
        .same("forward 2", 5);
    Texts.withRat("of an unmarked axiom").due("seal", 3).due("back", TrimChecker.BY_RUP).due("back", TrimChecker.BY_RAT)
        .due("back", TrimChecker.REVIVED).due("marked 4", 0).words(5, 4, 0, 0, 0).same("forward 2", 3);
  }

  /** "All lines of the text take part, whatever the cursor and the conflict point." */
  private static void ignoresCursorAndConflictPoint() {
    int[] answers = {
      TrimChecker.BY_RUP, TrimChecker.REVIVED, TrimChecker.REVIVED, TrimChecker.SKIPPED, TrimChecker.BY_RUP
    };
    Run run = Texts.checking("cursor");
    for (int answer : answers) {
      run.same("forward 0", 5).due("back", answer);
    }
    run.state(TrimChecker.ACCEPTED, 0, 5).same("forward 0", 5).same("forward 1", 5).same("forward 2", 5);
    // Line 2 fails; it is skipped on the way back, and fails wherever the cursor is.
    Run failing = Texts.square("failing line").add(4, "axiom -5 6", "lemma 7", "lemma 8", "lemma 5", "lemma 1")
        .same("forward 0", TrimChecker.FAILS_AT + 2).due("seal", 4);
    for (int answer : new int[] {TrimChecker.BY_RUP, TrimChecker.SKIPPED, TrimChecker.SKIPPED, TrimChecker.SKIPPED}) {
      failing.same("forward 0", TrimChecker.FAILS_AT + 2).due("back", answer);
    }
    failing.state(TrimChecker.ACCEPTED, 0, 4).same("forward 0", TrimChecker.FAILS_AT + 2).same("forward 1", 4);
  }
}
