/** Promise 17. Above each test stands the sentence that it tests. */
public final class HoldsTest {
  public static void main(String[] args) {
    takesBitsAsVariables();
    ignoresHighBits();
    takesEveryInt();
    refusesStrangeViews();
    answersInAnyPhase();
    needsATrueLiteralInEveryAxiom();
    takesDeletedAxiomsToo();
    isTrueWithoutAxioms();
    isFalseWithAnEmptyAxiom();
    takesAllAxiomsInTwoViews();
    takesMarkedAxiomsInTheCore();
    isTrueForTheCoreInBuilding();
    ignoresLemmas();
    Run.end();
  }

  /** "Bit v-1 of assignment is 1 if variable v is true, 0 if false" */
  private static void takesBitsAsVariables() {
    for (int v = 1; v <= 8; v++) {
      int bit = 1 << (v - 1);
      new Run("variable " + v, 8, 2, 1).add(0, "axiom " + v).same("holds 0 " + bit, 1).same("holds 0 " + (255 - bit), 0)
          .same("holds 0 0", 0).same("holds 0 255", 1);
      new Run("variable -" + v, 8, 2, 1).add(0, "axiom -" + v).same("holds 0 " + bit, 0)
          .same("holds 0 " + (255 - bit), 1)
          .same("holds 0 0", 1).same("holds 0 255", 0);
    }
  }

  /** "bits from number variables on are ignored" */
  private static void ignoresHighBits() {
    for (int variables = 1; variables <= 8; variables++) {
      Run run = new Run("bits above " + variables, variables, 2, 1).add(0, "axiom " + variables);
      Run negative = new Run("bits above " + variables, variables, 2, 1).add(0, "axiom -" + variables);
      int last = 1 << (variables - 1);
      for (int bit = variables; bit < 32; bit++) {
        run.due("holds 0 " + (1 << bit), 0).due("holds 0 " + (1 << bit | last), 1);
        negative.due("holds 0 " + (1 << bit), 1).due("holds 0 " + (1 << bit | last), 0);
      }
    }
  }

  /** "so every int, negative ones included, is an assignment" */
  private static void takesEveryInt() {
    Run run = new Run("1 and not 2", 2, 4, 4).add(0, "axiom 1", "axiom -2");
    for (int high : new int[] {0, 4, 8, 128, 256, 512, 1 << 16, 1 << 30, -4, -256, Integer.MIN_VALUE,
        Integer.MAX_VALUE - 3}) {
      run.same("holds 0 " + high, 0).same("holds 0 " + (high | 1), 1)
          .same("holds 0 " + (high | 2), 0).same("holds 0 " + (high | 3), 0);
    }
    new Run("eight variables", 8, 2, 1).add(0, "axiom 8").same("holds 0 -1", 1).same("holds 0 -129", 0)
        .same("holds 0 " + Integer.MIN_VALUE, 0).same("holds 0 " + Integer.MAX_VALUE, 1);
  }

  /** "If view is not WHOLE, TRIMMED or CORE: false." */
  private static void refusesStrangeViews() {
    Run empty = new Run("empty text", 2, 4, 4);
    Run satisfied = new Run("a satisfied axiom", 2, 4, 4).add(0, "axiom 1 -1");
    for (int view : new int[] {-1, -2, 3, 4, 5, 32, 33, 256, 258, Integer.MIN_VALUE, Integer.MAX_VALUE}) {
      empty.same("holds " + view + " 0", 0).same("holds " + view + " -1", 0);
      satisfied.same("holds " + view + " 0", 0);
    }
    for (Run run : Texts.inEveryPhase()) {
      run.same("holds 3 1", 0).same("holds -1 1", 0);
    }
  }

  /** "Otherwise, in any phase" */
  private static void answersInAnyPhase() {
    // The first three texts have the square, which no assignment satisfies; the last has the axiom "1 2" alone.
    Run[] runs = Texts.inEveryPhase();
    for (int assignment = 0; assignment < 4; assignment++) {
      for (int i = 0; i < 4; i++) {
        int want = i == 3 && assignment != 0 ? 1 : 0;
        runs[i].same("holds 0 " + assignment, want).same("holds 1 " + assignment, want);
      }
    }
  }

  /** "true if every axiom present in the view ... contains a true literal, else false" */
  private static void needsATrueLiteralInEveryAxiom() {
    Run run = new Run("1 or 2, not both", 2, 4, 4).add(0, "axiom 0 1 0 2", "axiom -1 -2");
    int[] wanted = {0, 1, 1, 0};
    for (int assignment = 0; assignment < 4; assignment++) {
      run.same("holds 0 " + assignment, wanted[assignment]).same("holds 1 " + assignment, wanted[assignment]);
    }
    new Run("both signs", 2, 4, 4).add(0, "axiom 2 -2").same("holds 0 0", 1).same("holds 0 2", 1);
    for (int literal = 1; literal <= 4; literal++) {
      new Run("one of four, " + literal, 4, 1, 1).add(0, "axiom 1 2 3 4").same("holds 0 " + (1 << (literal - 1)), 1)
          .same("holds 0 0", 0);
    }
    Run twelve = new Run("the last of twelve", 2, 12, 1);
    for (int id = 0; id < 12; id++) {
      twelve.due(id < 11 ? "axiom 1" : "axiom 2", id);
    }
    twelve.same("holds 0 1", 0).same("holds 0 2", 0).same("holds 0 3", 1);
  }

  /** "(deleted or not)" */
  private static void takesDeletedAxiomsToo() {
    new Run("in BUILDING", 2, 4, 4).add(0, "axiom 1", "axiom 2", "delete 0").due("alive 0", 0)
        .same("holds 0 2", 0).same("holds 1 2", 0).same("holds 0 3", 1).same("holds 1 3", 1);
    new Run("in CHECKING", 2, 4, 4).add(0, "axiom 1", "axiom 2", "delete 1", "lemma -1").due("seal", 2)
        .due("alive 1", 0)
        .same("holds 0 1", 0).same("holds 1 1", 0).same("holds 0 3", 1).same("holds 1 3", 1);
  }

  /** "true if there is no such axiom" */
  private static void isTrueWithoutAxioms() {
    for (int assignment : new int[] {0, 1, 3, -1, Integer.MIN_VALUE, Integer.MAX_VALUE}) {
      for (int view = 0; view <= 2; view++) {
        new Run("empty text", 2, 4, 4).same("holds " + view + " " + assignment, 1);
        new Run("lines alone", 2, 4, 4).add(0, "lemma 1", "lemma 0", "delete 0")
            .same("holds " + view + " " + assignment, 1);
      }
    }
    // No axiom is marked: the empty lemma alone gives the conflict.
    new Run("no axiom marked", 2, 4, 4).add(0, "axiom 1", "lemma 0").due("seal", 1).marks(1)
        .same("holds 2 0", 1).same("holds 0 0", 0).same("holds 1 0", 0);
  }

  /** "An empty axiom present in the view makes the answer false." */
  private static void isFalseWithAnEmptyAxiom() {
    for (int assignment : new int[] {0, 3, -1}) {
      new Run("not marked", 2, 4, 4).add(0, "axiom 1 -1", "axiom 0")
          .same("holds 0 " + assignment, 0).same("holds 1 " + assignment, 0).same("holds 2 " + assignment, 1);
      new Run("marked", 2, 4, 4).add(0, "axiom 0").due("seal", 0).marks(0).same("holds 2 " + assignment, 0);
      new Run("deleted", 2, 4, 4).add(0, "axiom 0", "delete 0").same("holds 0 " + assignment, 0)
          .same("holds 1 " + assignment, 0);
    }
  }

  /** "WHOLE and TRIMMED both take all axioms" */
  private static void takesAllAxiomsInTwoViews() {
    // Axiom 1 is the one that is not marked.
    new Run("marked or not", 2, 4, 4).add(0, "axiom 1", "axiom 2", "lemma -1").due("seal", 1).marks(0, 2)
        .same("holds 0 1", 0).same("holds 1 1", 0).same("holds 2 1", 1)
        .same("holds 0 3", 1).same("holds 1 3", 1).same("holds 2 3", 1);
  }

  /** "CORE takes the axioms marked at the time of the call" */
  private static void takesMarkedAxiomsInTheCore() {
    Texts.checking("core")
        // Marked axioms: 2 and 3, which leave 1 false.
        .same("holds 2 0", 1).same("holds 2 2", 1).same("holds 2 1", 0).same("holds 2 3", 0).same("holds 0 0", 0)
        .due("back", TrimChecker.BY_RUP)
        // Marked axioms: 1, 2 and 3.
        .same("holds 2 0", 1).same("holds 2 2", 0).same("holds 2 1", 0).same("holds 1 0", 0)
        .due("rewind 99", 6).same("holds 2 1", 1);
    Run accepted = Texts.accepted("accepted");
    Run rejected = Texts.rejected("rejected");
    for (int assignment = 0; assignment < 4; assignment++) {
      accepted.same("holds 2 " + assignment, 0);
      rejected.same("holds 2 " + assignment, 1);
    }
  }

  /** "so in BUILDING the answer for CORE is true" */
  private static void isTrueForTheCoreInBuilding() {
    for (Run run : new Run[] {
      Texts.withWaste("before sealing"), Texts.accepted("after rewinding").due("rewind 99", 6),
      new Run("an empty axiom", 2, 4, 4).add(0, "axiom 0"),
      Texts.square("after NO_CONFLICT").due("seal", TrimChecker.NO_CONFLICT)
    }) {
      for (int assignment : new int[] {0, 1, 2, 3, -1, Integer.MIN_VALUE}) {
        run.same("holds 2 " + assignment, 1);
      }
    }
  }

  /** "Lemmas play no part." */
  private static void ignoresLemmas() {
    new Run("in BUILDING", 2, 4, 4).add(0, "axiom 1", "axiom 2", "lemma -1", "lemma 0")
        .same("holds 0 3", 1).same("holds 1 3", 1).same("holds 0 2", 0).same("holds 1 2", 0);
    // Marked: the axiom "-1" and the lemma "1".
    new Run("marked", 2, 4, 4).add(0, "axiom -1", "lemma 1").due("seal", 1).marks(0, 1)
        .same("holds 0 0", 1).same("holds 1 0", 1).same("holds 2 0", 1).same("holds 2 1", 0);
  }
}
