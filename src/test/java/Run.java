/** A run of calls on one new TrimChecker, each with the answer that is due (a boolean counts 1 or 0). */
final class Run {
  private static int wrong = 0;

  private final String name;
  private final TrimChecker checker;

  Run(String name, int variables, int axioms, int lines) {
    this.name = name;
    this.checker = new TrimChecker(variables, axioms, lines);
  }

  Run due(String call, int want) {
    int got = Calls.answer(checker, call);
    if (got != want) {
      tellWrong(name + ": " + call + " answered " + got + ", due is " + want);
    }
    return this;
  }

  /** The same as due, and the call must leave everything as it was. */
  Run same(String call, int want) {
    String before = Calls.snapshot(checker);
    due(call, want);
    String difference = Calls.difference(before, Calls.snapshot(checker));
    if (!difference.isEmpty()) {
      tellWrong(name + ": " + call + " changed something: " + difference);
    }
    return this;
  }

  /** Adds clauses one after another, the first with the id given. */
  Run add(int firstId, String... calls) {
    for (int i = 0; i < calls.length; i++) {
      due(calls[i], firstId + i);
    }
    return this;
  }

  /** The method takes a clause, and answers BAD to a strange literal in any place. */
  void refusesLiteralsAbove(int variables, String method) {
    int[] strange = {
      variables + 1, -variables - 1, 8, -8, 9, -9, 256, 65536, Integer.MIN_VALUE, Integer.MIN_VALUE + 1, Integer.MAX_VALUE
    };
    for (int literal : strange) {
      same(method + " " + literal, TrimChecker.BAD);
      same(method + " 1 " + literal, TrimChecker.BAD);
      same(method + " 1 2 " + literal, TrimChecker.BAD);
      same(method + " 0 0 0 " + literal, TrimChecker.BAD);
    }
  }

  /** Exactly these of the ids 0..23 are marked. */
  Run marks(Integer... ids) {
    return exactly("marked", ids);
  }

  /** Exactly these of the ids 0..23 are alive. */
  Run living(Integer... ids) {
    return exactly("alive", ids);
  }

  private Run exactly(String method, Integer... ids) {
    java.util.List<Integer> wanted = java.util.Arrays.asList(ids);
    for (int id = 0; id < 24; id++) {
      due(method + " " + id, wanted.contains(id) ? 1 : 0);
    }
    return this;
  }

  Run state(int phase, int cursor, int conflict) {
    return due("phase", phase).due("cursor", cursor).due("conflict", conflict);
  }

  static void tellWrong(String text) {
    wrong++;
    System.out.println(text);
  }

  static void end() {
    if (wrong != 0) {
      System.out.println(wrong + " wrong");
      System.exit(1);
    }
  }
}
