/** Promise 15. Above each test stands the sentence that it tests. */
public final class KindTest {
  private static final int[] KINDS = {
    TrimChecker.AXIOM, TrimChecker.AXIOM, TrimChecker.AXIOM, TrimChecker.AXIOM, TrimChecker.LEMMA,
    TrimChecker.LEMMA, TrimChecker.DELETION, TrimChecker.DELETION, TrimChecker.LEMMA, TrimChecker.LEMMA
  };

  public static void main(String[] args) {
    tellsAllKinds();
    refusesNegativeIds();
    refusesIdsTooGreat();
    leavesDeletedClausesTheirKind();
    forgetsRemovedLines();
    Run.end();
  }

  /** "answers AXIOM, LEMMA or DELETION, as the text has it under this id, whatever the cursor and the phase" */
  private static void tellsAllKinds() {
    for (Run run : new Run[] {
      Texts.withWaste("building"), Texts.checking("checking"), Texts.checking("going back")
          .due("back", TrimChecker.BY_RUP),
      Texts.accepted("accepted"), Texts.accepted("rewound").due("rewind 99", 6)
    }) {
      for (int id = 0; id < KINDS.length; id++) {
        run.same("kind " + id, KINDS[id]);
      }
    }
    Texts.rejected("rejected").same("kind 0", TrimChecker.AXIOM).same("kind 1", TrimChecker.LEMMA)
        .same("kind 2", TrimChecker.LEMMA).same("kind 3", TrimChecker.LEMMA);
    new Run("no axioms", 1, 1, 2).add(0, "lemma 1", "delete 0").same("kind 0", TrimChecker.LEMMA)
        .same("kind 1", TrimChecker.DELETION);
    Texts.greatest("the edges of a full text").same("kind 0", TrimChecker.AXIOM).same("kind 11", TrimChecker.AXIOM)
        .same("kind 12", TrimChecker.DELETION).same("kind 19", TrimChecker.DELETION).same("kind 20", TrimChecker.LEMMA)
        .same("kind 23", TrimChecker.LEMMA);
  }

  /** "NOTHING if the text has no such id (negative" */
  private static void refusesNegativeIds() {
    for (Run run : Texts.inEveryPhase()) {
      for (int id : new int[] {-1, -2, -24, -32, -256, Integer.MIN_VALUE, Integer.MIN_VALUE + 1}) {
        run.same("kind " + id, TrimChecker.NOTHING);
      }
    }
  }

  /** "or too great)" */
  private static void refusesIdsTooGreat() {
    for (Run run : Texts.inEveryPhase()) {
      for (int id : new int[] {10, 11, 12, 23, 24, 25, 32, 256, Integer.MAX_VALUE - 1, Integer.MAX_VALUE}) {
        run.same("kind " + id, TrimChecker.NOTHING);
      }
    }
    Texts.rejected("just behind the text").same("kind 4", TrimChecker.NOTHING);
    new Run("empty text", 1, 1, 1).same("kind 0", TrimChecker.NOTHING).due("axiom 1", 0)
        .same("kind 1", TrimChecker.NOTHING);
    Texts.greatest("full text").same("kind 24", TrimChecker.NOTHING).same("kind 25", TrimChecker.NOTHING);
  }

  /** "A deleted clause keeps its kind." */
  private static void leavesDeletedClausesTheirKind() {
    Texts.withWaste("building").due("alive 0", 0).same("kind 0", TrimChecker.AXIOM)
        .due("alive 5", 0).same("kind 5", TrimChecker.LEMMA);
    Texts.checking("checking").due("alive 0", 0).same("kind 0", TrimChecker.AXIOM)
        .due("alive 5", 0).same("kind 5", TrimChecker.LEMMA);
  }

  /** "as the text has it": a removed line is no longer in the text, and another may come under its id. */
  private static void forgetsRemovedLines() {
    Texts.withWaste("removed").due("rewind 2", 2).same("kind 5", TrimChecker.LEMMA).same("kind 6", TrimChecker.NOTHING)
        .due("lemma 3", 6).same("kind 6", TrimChecker.LEMMA)
        .due("rewind 0", 0).due("axiom 3", 4).same("kind 4", TrimChecker.AXIOM).due("delete 4", 5)
        .same("kind 5", TrimChecker.DELETION).due("rewind -1", 0).same("kind 0", TrimChecker.NOTHING);
  }
}
