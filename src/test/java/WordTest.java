/** Promise 16. Above each test stands the sentence that it tests. */
public final class WordTest {
  private static final int[] OTHER_SLOTS = {-1, -2, -4, -32, 4, 5, 8, 32, 256, Integer.MIN_VALUE, Integer.MAX_VALUE};

  public static void main(String[] args) {
    readsInAnyPhase();
    readsTheLastId();
    readsDeletions();
    refusesOtherIds();
    refusesOtherSlots();
    forgetsRemovedLines();
    Run.end();
  }

  /** The ids 0 to 6: two axioms, a lemma, the deletions of 1 and 2, the lemma that gives a conflict, one behind it. */
  private static Run text(String name) {
    return new Run(name, 4, 3, 6)
        .add(0, "axiom 0 -4 0 2", "axiom 3 3 -3 1", "lemma -1 0 0 4", "delete 1", "delete 2", "lemma 0",
            "lemma 2 3 4 1");
  }

  /** "answers the text as given, in any phase and whatever the cursor. For a clause and slot 0..3: ... unchanged" */
  private static void readsInAnyPhase() {
    for (Run run : new Run[] {
      text("building"), text("checking").due("seal", 4), text("rejected").due("seal", 4)
          .due("back", TrimChecker.NOT_PASSED),
      text("rewound").due("seal", 4).due("rewind 99", 5)
    }) {
      run.words(0, 0, -4, 0, 2).words(1, 3, 3, -3, 1).words(2, -1, 0, 0, 4).words(3, 1, 0, 0, 0).words(4, 2, 0, 0, 0)
          .words(5, 0, 0, 0, 0).words(6, 2, 3, 4, 1).same("word 6 3", 1).same("word 0 1", -4);
    }
    for (Run run : new Run[] {
      Texts.checking("going back").due("back", TrimChecker.BY_RUP)
          .due("back", TrimChecker.REVIVED), Texts.accepted("accepted")
    }) {
      run.words(0, 1, 2, 0, 0).words(3, -1, -2, 0, 0).words(4, 2, 1, 0, 0).words(5, 5, 0, 0, 0).words(6, 5, 0, 0, 0)
          .words(7, 0, 0, 0, 0).words(8, 1, 0, 0, 0).words(9, 0, 0, 0, 0).same("word 4 0", 2).same("word 8 0", 1);
    }
  }

  /** The same at the last id and slot that there can be. */
  private static void readsTheLastId() {
    Run run = new Run("full", 8, 12, 12);
    for (int id = 0; id < 24; id++) {
      run.due((id < 12 ? "axiom " : "lemma ") + "1 2 " + (1 + id % 8) + " -8", id);
    }
    for (int id = 0; id < 24; id++) {
      run.words(id, 1, 2, 1 + id % 8, -8);
    }
    run.same("word 23 3", -8).same("word 24 0", 0).same("word 23 4", 0);
  }

  /** "For a deletion and slot 0: the target's id; slot 1..3: 0." */
  private static void readsDeletions() {
    text("building").same("word 3 0", 1).same("word 3 1", 0).same("word 3 2", 0).same("word 3 3", 0)
        .same("word 4 0", 2).same("word 4 1", 0).same("word 4 2", 0).same("word 4 3", 0);
    Texts.withWaste("the target is 0").same("word 7 0", 0).words(6, 5, 0, 0, 0);
    Run run = Texts.greatest("eight of them");
    for (int id = 12; id < 20; id++) {
      run.words(id, id - 8, 0, 0, 0);
    }
    // The words of a lemma that stood there must not show.
    text("overwritten").due("rewind 4", 4).due("lemma 1 2 3 4", 6).due("rewind 4", 4).due("delete 0", 6)
        .words(6, 0, 0, 0, 0);
  }

  /** "Any other id or slot: 0.": the ids */
  private static void refusesOtherIds() {
    for (Run run : new Run[] {text("building"), text("checking").due("seal", 4)}) {
      for (int id : new int[] {-1, -2, 7, 8, 23, 24, 25, 32, 256, 1 << 30, (1 << 30) + 1, -(1 << 30),
          Integer.MIN_VALUE, Integer.MIN_VALUE + 1, Integer.MAX_VALUE}) {
        for (int slot = 0; slot < 4; slot++) {
          run.same("word " + id + " " + slot, 0);
        }
        run.same("word " + id + " -1", 0).same("word " + id + " 4", 0);
      }
    }
    new Run("empty text", 1, 1, 1).same("word 0 0", 0).same("word 0 3", 0).same("word -1 4", 0);
  }

  /** "Any other id or slot: 0.": the slots, of an axiom, of a lemma and of a deletion */
  private static void refusesOtherSlots() {
    Run run = text("slots");
    for (int slot : OTHER_SLOTS) {
      for (int id = 0; id < 7; id++) {
        run.due("word " + id + " " + slot, 0);
      }
      run.same("word 1 " + slot, 0);
    }
  }

  /** "the text as given": what was removed is no longer in the text. */
  private static void forgetsRemovedLines() {
    text("removed").due("rewind 1", 1).words(2, -1, 0, 0, 4).words(3, 0, 0, 0, 0).words(6, 0, 0, 0, 0)
        .due("rewind 0", 0).words(2, 0, 0, 0, 0).due("axiom 4", 2).words(2, 4, 0, 0, 0)
        .due("delete 2", 3).words(3, 2, 0, 0, 0).due("rewind -1", 0).words(0, 0, 0, 0, 0);
  }
}
