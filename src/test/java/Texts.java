/** Texts that several tests start from. Each comment tells what the document makes of it. */
final class Texts {
  private Texts() {}

  /** Four axioms over 1 and 2 that no assignment satisfies, without a unit clause: no conflict yet. */
  static Run square(String name) {
    return new Run(name, 8, 12, 12).add(0, "axiom 1 2", "axiom 1 -2", "axiom -1 2", "axiom -1 -2");
  }

  /**
   * The square, an axiom 4 that keeps lemma 6 from passing, and its deletion 5.
   * Lemma 6 passes by RAT with no obligation, lemma 7 by RUP; the conflict comes after 3 lines.
   */
  static Run withRat(String name) {
    return square(name).add(4, "axiom -3 4", "delete 4", "lemma 3", "lemma -3 1");
  }

  /**
   * The square, then: 4 a needed lemma, 5 a lemma that is not needed, 6 the deletion of 5,
   * 7 the deletion of axiom 0, 8 the lemma that gives the conflict after 5 lines, 9 an empty lemma behind it.
   */
  static Run withWaste(String name) {
    return square(name).add(4, "lemma 2 1", "lemma 5", "delete 5", "delete 0", "lemma 1", "lemma 0");
  }

  /**
   * Seven axioms, then: 7 a lemma that 9 needs, 8 the deletion of an axiom that 7 needs, 9 a lemma, 10 the deletion
   * of 7, 11 the lemma that gives the conflict after 5 lines.
   */
  static Run withUsedAndDeleted(String name) {
    return new Run(name, 8, 12, 12)
        .add(0, "axiom 1 2 3", "axiom 1 -2 3", "axiom 1 -3", "axiom -1 2", "axiom -1 -2", "axiom -4 5", "axiom -4 -5")
        .add(7, "lemma 1 3", "delete 0", "lemma 1 4", "delete 7", "lemma -4");
  }

  /** The text with waste, sealed. */
  static Run checking(String name) {
    return withWaste(name).due("seal", 5);
  }

  /** The text with waste, sealed and gone back over to the start: accepted, all marks made. */
  static Run accepted(String name) {
    return checking(name)
        .due("back", TrimChecker.BY_RUP).due("back", TrimChecker.REVIVED).due("back", TrimChecker.REVIVED)
        .due("back", TrimChecker.SKIPPED).due("back", TrimChecker.BY_RUP);
  }

  /** An empty lemma that nothing supports: its backward step is refused. */
  static Run rejected(String name) {
    return new Run(name, 2, 3, 4).add(0, "axiom 1 2", "lemma 2 -1", "lemma 0", "lemma 1")
        .due("seal", 2).due("back", TrimChecker.NOT_PASSED);
  }

  /**
   * As many axioms and lines as there can be. After the square come eight axioms that are not needed (4 to 11),
   * then their deletions (12 to 19) and four needed lemmas (20 to 23): the conflict comes after 12 lines.
   */
  static Run greatest(String name) {
    Run run = square(name);
    for (int id = 4; id < 12; id++) {
      run.due("axiom 6 7", id);
    }
    for (int id = 4; id < 12; id++) {
      run.due("delete " + id, id + 8);
    }
    return run.add(20, "lemma 3", "lemma 4 -3", "lemma 5 -4", "lemma -5 1");
  }

  /** The greatest text, sealed and gone back over to the start. */
  static Run greatestAccepted(String name) {
    Run run = greatest(name).due("seal", 12).due("back", TrimChecker.BY_RUP)
        .due("back", TrimChecker.BY_RAT).due("back", TrimChecker.BY_RAT).due("back", TrimChecker.BY_RAT);
    for (int line = 7; line >= 0; line--) {
      run.due("back", TrimChecker.REVIVED);
    }
    return run;
  }

  /** One object in each phase, in the order of the phases' numbers. */
  static Run[] inEveryPhase() {
    return new Run[] {withWaste("building"), checking("checking"), accepted("accepted"), rejected("rejected")};
  }

  /** Objects that are no longer in BUILDING, one of them without a line. */
  static Run[] sealed() {
    return new Run[] {
      checking("checking"), checking("going back").due("back", TrimChecker.BY_RUP), accepted("accepted"),
      rejected("rejected"), new Run("accepted without a line", 2, 3, 3).add(0, "axiom 0").due("seal", 0)
    };
  }

  /** Objects with one variable that are no longer in BUILDING and have no room left: all refusals are due at once. */
  static Run[] sealedAndFull() {
    return new Run[] {
      new Run("checking and full", 1, 1, 1).add(0, "axiom -1", "lemma 1").due("seal", 1),
      new Run("rejected and full", 1, 1, 1).add(0, "axiom -1", "lemma 1").due("seal", 1)
          .due("back", TrimChecker.NOT_PASSED),
      new Run("accepted and full", 1, 1, 1).add(0, "axiom 0", "lemma 1").due("seal", 0)
    };
  }
}
