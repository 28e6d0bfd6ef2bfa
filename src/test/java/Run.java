/** A run of calls on one new TrimChecker, each with the answer that is due (a boolean counts 1 or 0). */
final class Run {
  private static int wrong = 0;

  private final String name;
  private final TrimChecker checker;

  Run(String name, int variables, int axioms, int lines) {
    this.name = name;
    this.checker = new TrimChecker(variables, axioms, lines);
  }

  int answer(String call) {
    return Calls.answer(checker, call);
  }

  Run due(String call, int want) {
    int got = answer(call);
    if (got != want) {
      tellWrong(name + ": " + call + " answered " + got + ", due is " + want);
    }
    return this;
  }

  /** The same as due, and the call must leave everything as it was. */
  Run same(String call, int want) {
    return changesOnly(call, want);
  }

  /** The same as due; of all that can be asked, only the answers to calls that begin so may change. */
  Run changesOnly(String call, int want, String... what) {
    String before = Calls.snapshot(checker);
    due(call, want);
    String difference = Calls.difference(before, Calls.snapshot(checker), what);
    if (!difference.isEmpty()) {
      tellWrong(name + ": " + call + " changed too much: " + difference);
    }
    return this;
  }

  /** Adds clauses and deletions one after another, the first with the id given. */
  Run add(int firstId, String... calls) {
    for (int i = 0; i < calls.length; i++) {
      due(calls[i], firstId + i);
    }
    return this;
  }

  /** The four words of an id. */
  Run words(int id, int a, int b, int c, int d) {
    return due("word " + id + " 0", a).due("word " + id + " 1", b).due("word " + id + " 2", c)
        .due("word " + id + " 3", d);
  }

  /** Exactly these of the ids 0..23 are marked. */
  Run marks(Integer... ids) {
    return exactly("marked", ids);
  }

  /** Exactly these of the ids 0..23 are alive. */
  Run living(Integer... ids) {
    return exactly("alive", ids);
  }

  private Run exactly(String method, Integer... ids) {
    java.util.List<Integer> wanted = java.util.Arrays.asList(ids);
    for (int id = 0; id < 24; id++) {
      due(method + " " + id, wanted.contains(id) ? 1 : 0);
    }
    return this;
  }

  Run state(int phase, int cursor, int conflict) {
    return due("phase", phase).due("cursor", cursor).due("conflict", conflict);
  }

  static void tellWrong(String text) {
    wrong++;
    System.out.println(text);
  }

  static void end() {
    if (wrong != 0) {
      System.out.println(wrong + " wrong");
      System.exit(1);
    }
  }
}
