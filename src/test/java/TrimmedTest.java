/** Promise 8. Above each test stands the sentence that it tests. */
public final class TrimmedTest {
  public static void main(String[] args) {
    refusesOtherPhases();
    listsMarkedLemmas();
    listsDeletionsOfAxioms();
    listsDeletionsOfMarkedLemmas();
    leavesOutDeletionsOfUnmarkedLemmas();
    stopsAtTheConflictPoint();
    refusesPlaces();
    isEmptyAtPointZero();
    Run.end();
  }

  /** "If the phase is not ACCEPTED: WRONG_PHASE, whatever k is." */
  private static void refusesOtherPhases() {
    for (Run run : new Run[] {
      new Run("empty text", 1, 1, 1), Texts.withRat("building"), Texts.checking("checking"),
      Texts.checking("going back").due("back", TrimChecker.BY_RUP), Texts.rejected("rejected"),
      Texts.accepted("rewound").due("rewind 99", 6)
    }) {
      for (int k : new int[] {Integer.MIN_VALUE, -1, 0, 1, 2, 11, 12, 99, Integer.MAX_VALUE}) {
        run.same("trimmed " + k, TrimChecker.WRONG_PHASE);
      }
    }
  }

  /** The trimmed derivation consists of the lines with these ids, and every other k is refused. */
  private static void listIs(Run run, int... ids) {
    for (int k = 0; k < ids.length; k++) {
      run.same("trimmed " + k, ids[k]);
    }
    int[] outside = {
      -1, -2, -32, Integer.MIN_VALUE, ids.length, ids.length + 1, ids.length + 32, 12, 13, 24, 256, Integer.MAX_VALUE
    };
    for (int k : outside) {
      run.same("trimmed " + k, TrimChecker.BAD);
    }
  }

  /** "in rising order, the lines ... that are a marked lemma": "The ids answered are those of the full text." */
  private static void listsMarkedLemmas() {
    Run run = Texts.square("some of five").add(4, "lemma 5", "lemma 3", "lemma 6", "lemma -3 1", "lemma 7")
        .due("seal", 4);
    run.due("back", TrimChecker.BY_RUP).due("back", TrimChecker.SKIPPED)
        .due("back", TrimChecker.BY_RAT).due("back", TrimChecker.SKIPPED);
    listIs(run, 5, 7);
    listIs(Texts.accepted("with a deletion between"), 4, 7, 8);
  }

  /** "or a deletion whose target is an axiom (marked or not)" */
  private static void listsDeletionsOfAxioms() {
    Run unmarked = Texts.withRat("not marked").due("seal", 3).due("back", TrimChecker.BY_RUP)
        .due("back", TrimChecker.BY_RAT).due("back", TrimChecker.REVIVED).due("marked 4", 0).words(5, 4, 0, 0, 0);
    listIs(unmarked, 5, 6, 7);
    listIs(Texts.accepted("marked").due("marked 0", 1).words(7, 0, 0, 0, 0), 4, 7, 8);
    // The last axiom and the first lemma are neighbours.
    Run edge = Texts.square("the last axiom").add(4, "axiom 5 6", "lemma 7", "delete 4", "delete 5", "lemma 1")
        .due("seal", 4)
        .due("back", TrimChecker.BY_RUP).due("back", TrimChecker.REVIVED).due("back", TrimChecker.REVIVED)
        .due("back", TrimChecker.SKIPPED);
    listIs(edge, 6, 8);
  }

  /** "or a marked lemma": a deletion that has one as its target */
  private static void listsDeletionsOfMarkedLemmas() {
    Run run = Texts.withUsedAndDeleted("deletion of a marked lemma").due("delete 11", 12);
    run.due("seal", 5).marks(3, 4, 9, 11)
        .due("back", TrimChecker.BY_RUP).due("back", TrimChecker.REVIVED).due("back", TrimChecker.BY_RUP)
        .due("back", TrimChecker.REVIVED).due("back", TrimChecker.BY_RUP)
        .marks(0, 1, 2, 3, 4, 5, 6, 7, 9, 11);
    listIs(run, 7, 8, 9, 10, 11);
  }

  /** The other side of the same sentence: the deletion of an unmarked lemma is not in it. */
  private static void leavesOutDeletionsOfUnmarkedLemmas() {
    Run run = Texts.square("deletions of unmarked lemmas")
        .add(4, "lemma 1 3", "lemma 3 1 2", "lemma -3 1", "delete 4", "delete 5", "lemma 1", "delete 6", "lemma 0");
    run.due("seal", 6).due("back", TrimChecker.BY_RUP)
        .due("back", TrimChecker.REVIVED).due("back", TrimChecker.REVIVED)
        .due("back", TrimChecker.SKIPPED).due("back", TrimChecker.SKIPPED).due("back", TrimChecker.SKIPPED);
    listIs(run, 9);
  }

  /** "the lines numbered below the conflict point" */
  private static void stopsAtTheConflictPoint() {
    // The line at the point deletes an axiom, the next one a marked lemma.
    Run run = Texts.square("deletions behind").add(4, "lemma 1", "delete 2", "delete 4", "lemma 1").due("seal", 1)
        .due("back", TrimChecker.BY_RUP).due("marked 2", 1).due("marked 4", 1);
    listIs(run, 4);
    // The line just below the point is the last one that counts.
    Run below = Texts.square("the last below").add(4, "lemma 8", "lemma 1").due("seal", 2)
        .due("back", TrimChecker.BY_RUP).due("back", TrimChecker.SKIPPED);
    listIs(below, 5);
  }

  /** "If k is negative or not less than their number: BAD." */
  private static void refusesPlaces() {
    listIs(Texts.greatestAccepted("all twelve lines"), 12, 13, 14, 15, 16, 17, 18, 19, 20, 21, 22, 23);
    Run one = Texts.square("one line").due("lemma 1", 4).due("seal", 1).due("back", TrimChecker.BY_RUP);
    listIs(one, 4);
  }

  /** "So if the conflict point is 0, every k gives BAD." */
  private static void isEmptyAtPointZero() {
    listIs(new Run("no line", 2, 3, 3).add(0, "axiom 0").due("seal", 0));
    listIs(new Run("lines behind", 2, 3, 3).add(0, "axiom 1", "axiom -1", "lemma 2", "delete 0").due("seal", 0));
  }
}
