/** Promise 9. */
public final class RewindTest {
  public static void main(String[] args) {
    removesLines();
    removesAllLines();
    removesEverything();
    removesNothing();
    worksInEveryPhase();
    leavesTheLimits();
    Run.end();
  }

  private static void removesLines() {
    Texts.withWaste("some lines").due("rewind 3", 3).state(TrimChecker.BUILDING, 3, TrimChecker.NONE)
        .living(0, 1, 2, 3, 4)
        .due("kind 6", TrimChecker.DELETION).due("word 6 0", 5).due("kind 7", TrimChecker.NOTHING).due("word 8 0", 0)
        .due("rewind 2", 2).living(0, 1, 2, 3, 4, 5).due("delete 5", 6).living(0, 1, 2, 3, 4)
        .due("lemma 1", 7).due("seal", 4);
  }

  private static void removesAllLines() {
    Texts.withRat("all lines").same("axiom 1", TrimChecker.WRONG_PHASE)
        .due("rewind 0", 0).state(TrimChecker.BUILDING, 0, TrimChecker.NONE).living(0, 1, 2, 3, 4)
        .due("word 4 0", -3).due("kind 5", TrimChecker.NOTHING).due("axiom -3", 5).due("kind 5", TrimChecker.AXIOM);
  }

  private static void removesEverything() {
    for (int lines : new int[] {-1, -2, Integer.MIN_VALUE}) {
      Texts.accepted("everything " + lines).due("rewind " + lines, 0)
          .state(TrimChecker.BUILDING, 0, TrimChecker.NONE).marks().living()
          .due("kind 0", TrimChecker.NOTHING).due("word 0 0", 0).same("seal", TrimChecker.NO_CONFLICT)
          .due("axiom 2", 0).due("kind 1", TrimChecker.NOTHING).due("axiom -2", 1).due("seal", 0).marks(0, 1);
    }
  }

  private static void removesNothing() {
    Run run = Texts.withWaste("nothing").same("rewind 6", 6).same("rewind 7", 6).same("rewind " + Integer.MAX_VALUE, 6);
    run.due("seal", 5).due("rewind 6", 6).state(TrimChecker.BUILDING, 6, TrimChecker.NONE).marks()
        .living(1, 2, 3, 4, 8, 9).due("lemma 1", 10);
    new Run("empty text", 1, 1, 1).same("rewind 0", 0).same("rewind 5", 0).same("rewind -1", 0);
  }

  private static void worksInEveryPhase() {
    Texts.withWaste("checking").due("seal", 5).due("back", TrimChecker.BY_RUP).due("back", TrimChecker.REVIVED)
        .due("rewind 99", 6).state(TrimChecker.BUILDING, 6, TrimChecker.NONE).marks().living(1, 2, 3, 4, 8, 9);
    Texts.accepted("accepted").due("rewind 4", 4).state(TrimChecker.BUILDING, 4, TrimChecker.NONE).marks()
        .living(1, 2, 3, 4).due("lemma 1", 8).due("seal", 5).marks(2, 3, 8);
    Texts.rejected("rejected").due("rewind 1", 1).state(TrimChecker.BUILDING, 1, TrimChecker.NONE).marks()
        .living(0, 1).due("lemma -2", 2).due("seal", 2).marks(0, 1, 2);
  }

  private static void leavesTheLimits() {
    new Run("limits", 1, 1, 1).add(0, "axiom 1", "lemma 1").due("rewind -1", 0)
        .due("axiom 2", TrimChecker.BAD).due("axiom 1", 0).due("axiom 1", TrimChecker.FULL)
        .due("lemma 1", 1).due("lemma 1", TrimChecker.FULL).due("rewind 0", 0)
        .due("axiom 1", TrimChecker.FULL).due("lemma 1", 1).due("lemma 1", TrimChecker.FULL);
  }
}
