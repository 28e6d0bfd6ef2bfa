/** Promise 1. */
public final class ConstructorTest {
  public static void main(String[] args) {
    startIsEmpty();
    lowestValues();
    greatestValues();
    valuesBetween();
    Run.end();
  }

  private static void startIsEmpty() {
    Run run = new Run("start", 3, 3, 3).state(TrimChecker.BUILDING, 0, TrimChecker.NONE).marks().living();
    for (int id = -1; id < 25; id++) {
      run.due("kind " + id, TrimChecker.NOTHING);
    }
  }

  private static void lowestValues() {
    for (int low : new int[] {Integer.MIN_VALUE, -1, 0, 1}) {
      new Run("lowest " + low, low, low, low)
          .due("axiom 2", TrimChecker.BAD).due("axiom -2", TrimChecker.BAD)
          .due("axiom 1 -1", 0).due("axiom 1", TrimChecker.FULL)
          .due("lemma 1", 1).due("lemma 1", TrimChecker.FULL);
    }
  }

  private static void greatestValues() {
    checkLimits("at the greatest", 8, 12, 12, 8, 12, 12);
    checkLimits("just above", 9, 13, 13, 8, 12, 12);
    checkLimits("extreme", Integer.MAX_VALUE, Integer.MAX_VALUE, Integer.MAX_VALUE, 8, 12, 12);
  }

  private static void valuesBetween() {
    checkLimits("each its own", 2, 5, 7, 2, 5, 7);
    checkLimits("mixed", 7, 2, 11, 7, 2, 11);
    checkLimits("one too low, one too great", 0, 11, 99, 1, 11, 12);
  }

  private static void checkLimits(
      String name, int variables, int axioms, int lines, int mostVariables, int mostAxioms, int mostLines) {
    Run run = new Run(name, variables, axioms, lines)
        .due("axiom " + (mostVariables + 1), TrimChecker.BAD)
        .due("axiom " + (-mostVariables - 1), TrimChecker.BAD);
    for (int id = 0; id < mostAxioms; id++) {
      run.due("axiom " + mostVariables + " " + -mostVariables, id);
    }
    run.due("axiom 1", TrimChecker.FULL);
    for (int line = 0; line < mostLines; line++) {
      run.due("lemma " + -mostVariables, mostAxioms + line);
    }
    run.due("lemma 1", TrimChecker.FULL);
    // The limits hold for the whole life of the object.
    run.due("rewind -1", 0).due("axiom " + (mostVariables + 1), TrimChecker.BAD);
    for (int id = 0; id < mostAxioms; id++) {
      run.due("axiom 1", id);
    }
    run.due("axiom 1", TrimChecker.FULL);
  }
}
