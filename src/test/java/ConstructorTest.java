/** Promise 1. Above each test stands the sentence that it tests. */
public final class ConstructorTest {
  private static final int[] TOO_SMALL = {0, -1, -2, -252, -65531, Integer.MIN_VALUE + 1, Integer.MIN_VALUE};
  private static final int[] TOO_GREAT = {13, 14, 32, 255, 256, 259, 65539, Integer.MAX_VALUE - 1, Integer.MAX_VALUE};

  public static void main(String[] args) {
    takesEveryInt();
    clampsFromBelow();
    clampsFromAbove();
    leavesWhatIsInside();
    holdsThemForLife();
    meansTheClampedValue();
    startsEmpty();
    sharesNothing();
    Run.end();
  }

  /** "accepts every int for each argument" */
  private static void takesEveryInt() {
    int[] values = {Integer.MIN_VALUE, -1, 0, 1, 4, 8, 9, 12, 13, Integer.MAX_VALUE};
    for (int variables : values) {
      for (int axioms : values) {
        for (int lines : values) {
          new Run("new " + variables + " " + axioms + " " + lines, variables, axioms, lines)
              .state(TrimChecker.BUILDING, 0, TrimChecker.NONE).due("axiom 1", 0).due("lemma -1", 1).due("seal", 1);
        }
      }
    }
  }

  /** "below the least becomes the least" */
  private static void clampsFromBelow() {
    for (int low : TOO_SMALL) {
      checkLimits(new Run("variables " + low, low, 5, 6), 1, 5, 6);
      checkLimits(new Run("axioms " + low, 4, low, 6), 4, 1, 6);
      checkLimits(new Run("lines " + low, 4, 5, low), 4, 5, 1);
      checkLimits(new Run("all " + low, low, low, low), 1, 1, 1);
    }
  }

  /** "above the greatest becomes the greatest" */
  private static void clampsFromAbove() {
    checkLimits(new Run("variables 9", 9, 5, 6), 8, 5, 6);
    checkLimits(new Run("variables 12", 12, 5, 6), 8, 5, 6);
    for (int high : TOO_GREAT) {
      checkLimits(new Run("variables " + high, high, 5, 6), 8, 5, 6);
      checkLimits(new Run("axioms " + high, 4, high, 6), 4, 12, 6);
      checkLimits(new Run("lines " + high, 4, 5, high), 4, 5, 12);
      checkLimits(new Run("all " + high, high, high, high), 8, 12, 12);
    }
  }

  /** "clamped into 1..8 ... into 1..12 ... into 1..12": what is inside stays, both ends included. */
  private static void leavesWhatIsInside() {
    for (int variables = 1; variables <= 8; variables++) {
      checkLimits(new Run("variables " + variables, variables, 2, 3), variables, 2, 3);
    }
    for (int most = 1; most <= 12; most++) {
      checkLimits(new Run("axioms " + most, 3, most, 2), 3, most, 2);
      checkLimits(new Run("lines " + most, 3, 2, most), 3, 2, most);
    }
  }

  /** "The clamped values hold for the whole life of the object" */
  private static void holdsThemForLife() {
    Run run = new Run("life", 2, 3, 4);
    checkLimits(run, 2, 3, 4);
    checkLimits(run.due("seal", TrimChecker.NO_CONFLICT).due("rewind -1", 0), 2, 3, 4);
    run.due("rewind 0", 0).due("lemma 0", 3).due("seal", 1).due("back", TrimChecker.NOT_PASSED);
    checkLimits(run.due("rewind -1", 0), 2, 3, 4);
    run.due("rewind -1", 0).due("axiom 0", 0).due("seal", 0);
    checkLimits(run.due("rewind -1", 0), 2, 3, 4);
    Run clamped = new Run("clamped life", Integer.MAX_VALUE, 0, -7);
    checkLimits(clamped, 8, 1, 1);
    checkLimits(clamped.due("rewind -1", 0), 8, 1, 1);
  }

  /** "wherever variables is named below, the clamped value is meant": where literals and assignments are looked at */
  private static void meansTheClampedValue() {
    for (int low : TOO_SMALL) {
      Run run = new Run("one variable, from " + low, low, 2, 2);
      run.due("axiom -2", TrimChecker.BAD).due("lemma 0 0 0 2", TrimChecker.BAD).due("axiom 1", 0)
          .due("holds 0 1", 1).due("holds 0 3", 1).due("holds 0 -2", 0).due("holds 0 -1", 1);
    }
    for (int high : TOO_GREAT) {
      Run run = new Run("eight variables, from " + high, high, 2, 2);
      run.due("axiom -9", TrimChecker.BAD).due("lemma 0 0 0 9", TrimChecker.BAD).due("axiom 8", 0)
          .due("holds 0 128", 1).due("holds 0 256", 0).due("holds 0 -1", 1).due("holds 0 -129", 0);
    }
  }

  /** Exactly so many variables, axioms and lines: the text is empty before and full afterwards. */
  private static void checkLimits(Run run, int variables, int axioms, int lines) {
    String[] outside = {" " + (variables + 1), " " + (-variables - 1)};
    run.due("axiom" + outside[0], TrimChecker.BAD).due("axiom" + outside[1], TrimChecker.BAD);
    for (int id = 0; id < axioms; id++) {
      run.due("axiom " + variables + " " + -variables, id);
    }
    run.due("axiom 1", TrimChecker.FULL);
    run.due("lemma" + outside[0], TrimChecker.BAD).due("lemma" + outside[1], TrimChecker.BAD);
    for (int line = 0; line < lines; line++) {
      run.due("lemma " + -variables + " " + variables, axioms + line);
    }
    run.due("lemma 1", TrimChecker.FULL).due("delete 0", TrimChecker.FULL);
  }

  /** "A new object is in BUILDING with no axioms and no lines; the cursor is 0, the conflict point is NONE ..." */
  private static void startsEmpty() {
    Run[] runs = {
      new Run("start", 3, 3, 3), new Run("least start", Integer.MIN_VALUE, Integer.MIN_VALUE, Integer.MIN_VALUE),
      new Run("greatest start", Integer.MAX_VALUE, Integer.MAX_VALUE, Integer.MAX_VALUE)
    };
    for (Run run : runs) {
      run.state(TrimChecker.BUILDING, 0, TrimChecker.NONE).marks().living();
      for (int id = -1; id < 33; id++) {
        run.due("kind " + id, TrimChecker.NOTHING).words(id, 0, 0, 0, 0);
      }
      run.due("forward 0", TrimChecker.NO_CONFLICT).due("trimmed 0", TrimChecker.WRONG_PHASE)
          .due("holds 0 0", 1).due("holds 1 -1", 1).due("holds 2 5", 1)
          .due("seal", TrimChecker.NO_CONFLICT).due("back", TrimChecker.WRONG_PHASE).due("delete 0", TrimChecker.BAD)
          .due("rewind " + Integer.MAX_VALUE, 0).due("axiom 1", 0);
    }
  }

  /** "A new object is in BUILDING ...": whatever was done with other objects. */
  private static void sharesNothing() {
    String fresh = Calls.snapshot(new TrimChecker(8, 12, 12));
    Run used = Texts.accepted("used");
    TrimChecker second = new TrimChecker(8, 12, 12);
    String difference = Calls.difference(fresh, Calls.snapshot(second));
    if (!difference.isEmpty()) {
      Run.tellWrong("a second object is not new: " + difference);
    }
    second.axiom(0, 0, 0, 0);
    second.seal();
    second.rewind(-1);
    used.state(TrimChecker.ACCEPTED, 0, 5).marks(0, 1, 2, 3, 4, 8).living(0, 1, 2, 3);
  }
}
