/** Promise 16. */
public final class WordTest {
  public static void main(String[] args) {
    readsTheText(text("building"));
    readsTheText(text("checking").due("seal", 4));
    readsTheText(text("going back").due("seal", 4).due("back", TrimChecker.NOT_PASSED));
    forgetsRemovedLines();
    readsTheLastId();
    Run.end();
  }

  private static Run text(String name) {
    return new Run(name, 4, 3, 6)
        .add(0, "axiom 0 -4 0 2", "axiom 3 3 -3 1", "lemma -1 0 0 4", "delete 1", "delete 2", "lemma 0", "lemma 2 3 4 1");
  }

  private static void readsTheText(Run run) {
    int[][] words = {{0, -4, 0, 2}, {3, 3, -3, 1}, {-1, 0, 0, 4}, {1, 0, 0, 0}, {2, 0, 0, 0}, {0, 0, 0, 0}, {2, 3, 4, 1}};
    for (int id = 0; id < words.length; id++) {
      for (int slot = 0; slot < 4; slot++) {
        run.due("word " + id + " " + slot, words[id][slot]);
      }
    }
    for (int strange : new int[] {-1, -4, 4, 5, 32, Integer.MIN_VALUE, Integer.MAX_VALUE}) {
      run.same("word 1 " + strange, 0);
      run.same("word 3 " + strange, 0);
    }
    for (int strange : new int[] {-1, 7, 8, 23, 24, 25, Integer.MIN_VALUE, Integer.MAX_VALUE, 1 << 30, (1 << 30) + 1}) {
      run.same("word " + strange + " 0", 0);
      run.same("word " + strange + " 3", 0);
    }
    run.same("word 6 3", 1);
  }

  private static void forgetsRemovedLines() {
    text("removed").due("rewind 1", 1).due("word 2 3", 4).due("word 3 0", 0).due("word 6 1", 0)
        .due("delete 0", 3).due("word 3 0", 0).due("word 3 1", 0)
        .due("rewind 0", 0).due("axiom 4", 2).due("word 2 0", 4).due("word 2 3", 0)
        .due("delete 2", 3).due("word 3 0", 2);
    // A deletion where a lemma stood must not show the lemma's words.
    text("overwritten").due("rewind 4", 4).due("lemma 1 2 3 4", 6).due("rewind 4", 4).due("delete 0", 6)
        .due("word 6 0", 0).due("word 6 1", 0).due("word 6 2", 0).due("word 6 3", 0);
  }

  private static void readsTheLastId() {
    Run run = new Run("full", 8, 12, 12);
    for (int id = 0; id < 24; id++) {
      run.due((id < 12 ? "axiom " : "lemma ") + "1 2 3 -8", id);
    }
    run.same("word 23 3", -8).same("word 23 0", 1).same("word 24 0", 0).same("word 23 4", 0);
  }
}
