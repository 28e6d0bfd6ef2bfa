/** Promises 10, 11 and 12, and the term "state". Above each test stands the sentence that it tests. */
public final class StateTest {
  public static void main(String[] args) {
    tellsEachPhase();
    tellsTheCursorInEachPhase();
    tellsTheConflictPointInEachPhase();
    keepsTheConflictPoint();
    buildsWithoutMarks();
    Run.end();
  }

  /** The answer in each phase, in the order of the phases' numbers; asking twice makes no difference. */
  private static void inEachPhase(String call, int... wanted) {
    Run[] runs = Texts.inEveryPhase();
    for (int i = 0; i < runs.length; i++) {
      runs[i].same(call, wanted[i]).same(call, wanted[i]);
    }
  }

  /** "phase() answers the phase: BUILDING, CHECKING, ACCEPTED or REJECTED. Nothing changes." */
  private static void tellsEachPhase() {
    inEachPhase("phase", TrimChecker.BUILDING, TrimChecker.CHECKING, TrimChecker.ACCEPTED, TrimChecker.REJECTED);
    new Run("new", 1, 1, 1).same("phase", TrimChecker.BUILDING);
    Texts.square("after NO_CONFLICT").due("seal", TrimChecker.NO_CONFLICT).same("phase", TrimChecker.BUILDING);
    new Run("accepted at once", 1, 1, 1).due("axiom 0", 0).due("seal", 0).same("phase", TrimChecker.ACCEPTED);
    Texts.rejected("rewound").due("rewind 99", 3).same("phase", TrimChecker.BUILDING);
  }

  /** "cursor() answers the cursor, in any phase. In BUILDING this is the number of lines. Nothing changes." */
  private static void tellsTheCursorInEachPhase() {
    inEachPhase("cursor", 6, 5, 0, 2);
    new Run("no line", 1, 1, 1).same("cursor", 0).due("axiom 1", 0).same("cursor", 0);
    Texts.rejected("rewound").due("rewind 99", 3).same("cursor", 3);
    Texts.greatest("twelve lines").same("cursor", 12).due("seal", 12).same("cursor", 12);
    new Run("accepted at once, a line behind", 1, 1, 1).add(0, "axiom 0", "lemma 1").same("cursor", 1)
        .due("seal", 0).same("cursor", 0);
  }

  /** "conflict() answers the conflict point found by seal(), or NONE in BUILDING. ... Nothing changes." */
  private static void tellsTheConflictPointInEachPhase() {
    inEachPhase("conflict", TrimChecker.NONE, 5, 5, 2);
    new Run("new", 1, 1, 1).same("conflict", TrimChecker.NONE);
    Texts.square("after NO_CONFLICT").due("seal", TrimChecker.NO_CONFLICT).same("conflict", TrimChecker.NONE);
    Texts.rejected("rewound").due("rewind 99", 3).same("conflict", TrimChecker.NONE);
    new Run("point 0", 1, 1, 1).due("axiom 0", 0).due("seal", 0).same("conflict", 0);
    Texts.greatest("point 12").due("seal", 12).same("conflict", 12);
  }

  /** "It keeps its value through CHECKING, ACCEPTED and REJECTED." */
  private static void keepsTheConflictPoint() {
    Texts.withWaste("accepted").state(TrimChecker.BUILDING, 6, TrimChecker.NONE)
        .due("seal", 5).state(TrimChecker.CHECKING, 5, 5)
        .due("back", TrimChecker.BY_RUP).state(TrimChecker.CHECKING, 4, 5)
        .due("back", TrimChecker.REVIVED).state(TrimChecker.CHECKING, 3, 5)
        .due("back", TrimChecker.REVIVED).state(TrimChecker.CHECKING, 2, 5)
        .due("back", TrimChecker.SKIPPED).state(TrimChecker.CHECKING, 1, 5)
        .due("back", TrimChecker.BY_RUP).state(TrimChecker.ACCEPTED, 0, 5)
        .due("back", TrimChecker.WRONG_PHASE).state(TrimChecker.ACCEPTED, 0, 5)
        .due("seal", TrimChecker.WRONG_PHASE).state(TrimChecker.ACCEPTED, 0, 5)
        .due("rewind 2", 2).state(TrimChecker.BUILDING, 2, TrimChecker.NONE);
    Texts.rejected("rejected").state(TrimChecker.REJECTED, 2, 2)
        .due("back", TrimChecker.WRONG_PHASE).state(TrimChecker.REJECTED, 2, 2)
        .due("seal", TrimChecker.WRONG_PHASE).state(TrimChecker.REJECTED, 2, 2);
  }

  /** "In BUILDING no clause is marked, the cursor always equals the number of lines, and the conflict point is NONE." */
  private static void buildsWithoutMarks() {
    Texts.accepted("in a second life").due("rewind 3", 3).marks().state(TrimChecker.BUILDING, 3, TrimChecker.NONE)
        .due("lemma 0 8", 7).marks().state(TrimChecker.BUILDING, 4, TrimChecker.NONE)
        .due("delete 2", 8).marks().state(TrimChecker.BUILDING, 5, TrimChecker.NONE)
        .due("delete 2", TrimChecker.BAD).marks().state(TrimChecker.BUILDING, 5, TrimChecker.NONE)
        .due("seal", TrimChecker.NO_CONFLICT).marks().state(TrimChecker.BUILDING, 5, TrimChecker.NONE)
        .due("rewind 0", 0).marks().state(TrimChecker.BUILDING, 0, TrimChecker.NONE)
        .due("axiom 8", 4).marks().state(TrimChecker.BUILDING, 0, TrimChecker.NONE);
  }
}
