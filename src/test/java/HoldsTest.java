/** Promise 17. */
public final class HoldsTest {
  public static void main(String[] args) {
    evaluatesAxioms();
    ignoresHighBits();
    knowsEveryVariable();
    takesAxiomsOnly();
    takesTheCoreAsMarked();
    refusesStrangeViews();
    Run.end();
  }

  private static void evaluatesAxioms() {
    Run run = new Run("two axioms", 2, 4, 4).add(0, "axiom 0 1 0 2", "axiom -1 -2");
    int[] wanted = {0, 1, 1, 0};
    for (int assignment = 0; assignment < 4; assignment++) {
      run.same("holds 0 " + assignment, wanted[assignment]).same("holds 1 " + assignment, wanted[assignment])
          .same("holds 2 " + assignment, 1);
    }
    Run empty = new Run("empty text", 2, 4, 4);
    empty.same("holds 0 0", 1).same("holds 1 3", 1).same("holds 2 " + Integer.MIN_VALUE, 1);
    new Run("empty axiom", 2, 4, 4).add(0, "axiom 0").same("holds 0 0", 0).same("holds 1 3", 0).same("holds 2 3", 1);
    new Run("both signs", 2, 4, 4).add(0, "axiom 2 -2").same("holds 0 0", 1).same("holds 0 2", 1);
  }

  private static void ignoresHighBits() {
    Run run = new Run("high bits", 2, 4, 4).add(0, "axiom 1", "axiom -2");
    for (int high : new int[] {0, 4, 8, 128, 256, 512, 1 << 16, -4, Integer.MIN_VALUE, Integer.MAX_VALUE - 3}) {
      run.same("holds 0 " + (high | 1), 1).same("holds 0 " + high, 0)
          .same("holds 0 " + (high | 3), 0).same("holds 0 " + (high | 2), 0);
    }
  }

  private static void knowsEveryVariable() {
    for (int v = 1; v <= 8; v++) {
      int bit = 1 << (v - 1);
      new Run("variable " + v, 8, 2, 1).add(0, "axiom " + v)
          .due("holds 0 " + bit, 1).due("holds 0 " + (255 - bit), 0).due("holds 0 " + (-1 - bit), 0);
      new Run("variable -" + v, 8, 2, 1).add(0, "axiom -" + v)
          .due("holds 0 " + bit, 0).due("holds 0 " + (255 - bit), 1).due("holds 0 " + (-1 - bit), 1);
    }
  }

  private static void takesAxiomsOnly() {
    new Run("lemmas and deletions", 2, 4, 4).add(0, "axiom 1", "axiom 2", "lemma -1", "lemma 0", "delete 0")
        .same("holds 0 3", 1).same("holds 1 3", 1).same("holds 0 2", 0).same("holds 1 2", 0);
  }

  private static void takesTheCoreAsMarked() {
    Texts.withWaste("core").due("seal", 5)
        // Marked axioms: 2 and 3, which leave 1 false.
        .same("holds 2 0", 1).same("holds 2 2", 1).same("holds 2 1", 0).same("holds 2 3", 0).same("holds 0 0", 0)
        .due("back", TrimChecker.BY_RUP)
        // Marked axioms: 1, 2 and 3.
        .same("holds 2 0", 1).same("holds 2 2", 0).same("holds 2 1", 0).same("holds 1 0", 0)
        .due("rewind 99", 6).same("holds 2 1", 1);
    Run accepted = Texts.accepted("accepted");
    Run rejected = Texts.rejected("rejected");
    for (int assignment = 0; assignment < 4; assignment++) {
      accepted.same("holds 2 " + assignment, 0).same("holds 1 " + assignment, 0);
      rejected.same("holds 2 " + assignment, 1).same("holds 1 " + assignment, assignment == 0 ? 0 : 1);
    }
    new Run("marked empty axiom", 2, 4, 4).add(0, "axiom 0").due("seal", 0).same("holds 2 0", 0);
  }

  private static void refusesStrangeViews() {
    Run empty = new Run("empty text", 2, 4, 4);
    Run accepted = Texts.accepted("accepted");
    for (int view : new int[] {-1, 3, 4, 5, 32, 256, Integer.MIN_VALUE, Integer.MAX_VALUE}) {
      empty.same("holds " + view + " 0", 0);
      accepted.same("holds " + view + " 0", 0);
    }
  }
}
