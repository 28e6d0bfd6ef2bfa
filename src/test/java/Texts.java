/** Texts that several tests start from. Each comment tells what the document makes of it. */
final class Texts {
  private Texts() {}

  /** Four axioms over 1 and 2 that no assignment satisfies, without a unit clause: no conflict yet. */
  static Run square(String name) {
    return new Run(name, 8, 12, 12).add(0, "axiom 1 2", "axiom 1 -2", "axiom -1 2", "axiom -1 -2");
  }

  /**
   * The square, an axiom 4 that keeps lemma 6 from passing, and its deletion 5.
   * Lemma 6 passes by RAT with no obligation, lemma 7 by RUP; the conflict comes after 3 lines.
   */
  static Run withRat(String name) {
    return square(name).add(4, "axiom -3 4", "delete 4", "lemma 3", "lemma -3 1");
  }

  /**
   * The square, then: 4 a needed lemma, 5 a lemma that is not needed, 6 the deletion of 5,
   * 7 the deletion of axiom 0, 8 the lemma that gives the conflict after 5 lines, 9 an empty lemma behind it.
   */
  static Run withWaste(String name) {
    return square(name).add(4, "lemma 2 1", "lemma 5", "delete 5", "delete 0", "lemma 1", "lemma 0");
  }

  /** The text with waste, sealed and gone back over to the start: accepted, all marks made. */
  static Run accepted(String name) {
    return withWaste(name).due("seal", 5)
        .due("back", TrimChecker.BY_RUP).due("back", TrimChecker.REVIVED).due("back", TrimChecker.REVIVED)
        .due("back", TrimChecker.SKIPPED).due("back", TrimChecker.BY_RUP);
  }

  /** An empty lemma that nothing supports: its backward step is refused. */
  static Run rejected(String name) {
    return new Run(name, 2, 3, 4).add(0, "axiom 1 2", "lemma 2 -1", "lemma 0", "lemma 1")
        .due("seal", 2).due("back", TrimChecker.NOT_PASSED);
  }
}
