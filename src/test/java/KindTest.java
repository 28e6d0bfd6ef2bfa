/** Promise 15. */
public final class KindTest {
  private static final int[] KINDS = {
    TrimChecker.AXIOM, TrimChecker.AXIOM, TrimChecker.AXIOM, TrimChecker.AXIOM, TrimChecker.LEMMA,
    TrimChecker.LEMMA, TrimChecker.DELETION, TrimChecker.DELETION, TrimChecker.LEMMA, TrimChecker.LEMMA
  };

  public static void main(String[] args) {
    tellsAllKinds(Texts.withWaste("building"));
    tellsAllKinds(Texts.withWaste("checking").due("seal", 5).due("back", TrimChecker.BY_RUP));
    tellsAllKinds(Texts.accepted("accepted"));
    Texts.rejected("rejected").same("kind 0", TrimChecker.AXIOM).same("kind 2", TrimChecker.LEMMA)
        .same("kind 3", TrimChecker.LEMMA).same("kind 4", TrimChecker.NOTHING);
    forgetsRemovedLines();
    fullText();
    Run.end();
  }

  private static void tellsAllKinds(Run run) {
    for (int id = 0; id < KINDS.length; id++) {
      run.same("kind " + id, KINDS[id]);
    }
    for (int id : new int[] {-1, -2, KINDS.length, 23, 24, 32, Integer.MIN_VALUE, Integer.MAX_VALUE}) {
      run.same("kind " + id, TrimChecker.NOTHING);
    }
  }

  private static void forgetsRemovedLines() {
    Texts.withWaste("removed").due("rewind 2", 2).due("kind 5", TrimChecker.LEMMA).due("kind 6", TrimChecker.NOTHING)
        .due("lemma 3", 6).due("kind 6", TrimChecker.LEMMA).due("word 6 0", 3).due("alive 6", 1);
  }

  private static void fullText() {
    Run run = new Run("full", 1, 12, 12);
    for (int id = 0; id < 12; id++) {
      run.due("axiom 1", id);
    }
    for (int id = 12; id < 24; id++) {
      run.due(id < 23 ? "lemma 1" : "delete 22", id);
    }
    run.same("kind 0", TrimChecker.AXIOM).same("kind 11", TrimChecker.AXIOM).same("kind 12", TrimChecker.LEMMA)
        .same("kind 22", TrimChecker.LEMMA).same("kind 23", TrimChecker.DELETION).same("kind 24", TrimChecker.NOTHING);
  }
}
