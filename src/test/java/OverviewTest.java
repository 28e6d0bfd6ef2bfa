/** "What it is", where its sentences go over several promises at once. Above each test stands the sentence. */
public final class OverviewTest {
  public static void main(String[] args) {
    takesTheGreatestText();
    acceptsAfterLineZero();
    marksACore();
    trimsTheDerivation();
    leavesTheTextOpen();
    Run.end();
  }

  /**
   * "It takes a small formula in clause form (up to 12 axioms over up to 8 variables) and a derivation of up to
   * 12 lines, each a lemma or a deletion by id."
   */
  private static void takesTheGreatestText() {
    Run run = new Run("greatest", 8, 12, 12);
    for (int id = 0; id < 12; id++) {
      run.due("axiom 8 -8 7 -7", id);
    }
    for (int id = 12; id < 24; id++) {
      run.due(id % 2 == 0 ? "lemma -8 8 -7 7" : "delete " + (id - 12), id);
    }
    run.same("axiom 1", TrimChecker.WRONG_PHASE).same("lemma 1", TrimChecker.FULL).same("delete 0", TrimChecker.FULL);
    Texts.greatestAccepted("the same, accepted").state(TrimChecker.ACCEPTED, 0, 12);
  }

  /** "Each backward step then goes back over one line. When line 0 has been passed the derivation is accepted" */
  private static void acceptsAfterLineZero() {
    Run run = Texts.greatest("line by line").due("seal", 12);
    for (int cursor = 12; cursor > 0; cursor--) {
      run.state(TrimChecker.CHECKING, cursor, 12).answer("back");
    }
    run.state(TrimChecker.ACCEPTED, 0, 12).same("back", TrimChecker.WRONG_PHASE);
  }

  private static Run[] acceptedTexts() {
    return new Run[] {
      Texts.accepted("with waste"), Texts.greatestAccepted("greatest"),
      goneBack(Texts.withRat("with RAT")),
      goneBack(Texts.square("no deletion").add(4, "lemma 1")),
      goneBack(Texts.withUsedAndDeleted("a lemma used and deleted")),
      goneBack(new Run("conflict at once", 2, 3, 3).add(0, "axiom 1", "axiom 2", "axiom -1", "lemma 2", "delete 0"))
    };
  }

  private static Run goneBack(Run run) {
    run.answer("seal");
    while (run.answer("phase") == TrimChecker.CHECKING) {
      run.answer("back");
    }
    return run.due("phase", TrimChecker.ACCEPTED);
  }

  /** "the marked axioms are the unsatisfiable core" */
  private static void marksACore() {
    for (Run run : acceptedTexts()) {
      for (int assignment = 0; assignment < 256; assignment++) {
        run.due("holds " + TrimChecker.CORE + " " + assignment, 0);
      }
    }
  }

  /** "and the marked lemmas together with the relevant deletions are the trimmed derivation" */
  private static void trimsTheDerivation() {
    for (Run run : acceptedTexts()) {
      Run copy = new Run("trimmed copy", 8, 12, 12);
      int axioms = 0;
      for (; run.answer("kind " + axioms) == TrimChecker.AXIOM; axioms++) {
        copy.due("axiom" + wordsOf(run, axioms), axioms);
      }
      int lines = copyTrimmedLines(run, copy, axioms);
      copy.due("seal", lines);
      goneBack(copy);
    }
  }

  private static int copyTrimmedLines(Run run, Run copy, int axioms) {
    int[] newIds = new int[24];
    for (int id = 0; id < axioms; id++) {
      newIds[id] = id;
    }
    int line = 0;
    for (; run.answer("trimmed " + line) >= 0; line++) {
      int id = run.answer("trimmed " + line);
      newIds[id] = axioms + line;
      boolean deletion = run.answer("kind " + id) == TrimChecker.DELETION;
      copy.due(deletion ? "delete " + newIds[run.answer("word " + id + " 0")] : "lemma" + wordsOf(run, id), newIds[id]);
    }
    return line;
  }

  private static String wordsOf(Run run, int id) {
    String words = "";
    for (int slot = 0; slot < 4; slot++) {
      words += " " + run.answer("word " + id + " " + slot);
    }
    return words;
  }

  /**
   * "The text can also be gone through forwards, read back, truncated and extended, and assignments can be evaluated
   * on the axioms."
   */
  private static void leavesTheTextOpen() {
    Run run = Texts.accepted("open").same("forward " + TrimChecker.WHOLE, 5).words(4, 2, 1, 0, 0)
        .same("holds " + TrimChecker.WHOLE + " 3", 0).due("rewind 1", 1).add(5, "lemma -2 1", "lemma 1").due("seal", 3);
    run.due("back", TrimChecker.BY_RUP).due("back", TrimChecker.SKIPPED).due("back", TrimChecker.SKIPPED)
        .state(TrimChecker.ACCEPTED, 0, 3);
  }
}
