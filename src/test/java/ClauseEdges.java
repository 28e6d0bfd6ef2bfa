/** What promises 2 and 3 ask of axiom and lemma alike; the method is given by its name. */
final class ClauseEdges {
  private static final String[] PLACES = {"x 0 0 0", "0 x 0 0", "0 0 x 0", "0 0 0 x", "1 x 1 1", "x x x x"};

  private ClauseEdges() {}

  /** "Some argument is less than -variables or greater than variables (this includes the extreme int values): BAD." */
  static void refusesLiteralsOutside(String method) {
    for (int variables = 1; variables <= 8; variables++) {
      Run run = new Run("literals outside " + variables, variables, 2, 2);
      int[] strange = {
        variables + 1, -variables - 1, 9, -9, 32, -32, 256, -256, 257, 65536, -65536,
        Integer.MIN_VALUE, Integer.MIN_VALUE + 1, Integer.MAX_VALUE, Integer.MAX_VALUE - 1
      };
      for (int literal : strange) {
        for (String place : PLACES) {
          run.same(in(place, method, literal), TrimChecker.BAD);
        }
      }
      run.due(method + " 1", 0);
    }
  }

  /** The other side of the same sentence: -variables and variables themselves are taken, in every place. */
  static void takesLiteralsAtTheEdge(String method) {
    for (int variables = 1; variables <= 8; variables++) {
      Run run = new Run("literals at the edge of " + variables, variables, 12, 12);
      int id = 0;
      for (String place : PLACES) {
        run.due(in(place, method, variables), id++);
        run.due(in(place, method, -variables), id++);
      }
    }
  }

  /** "Some argument": one strange literal among good ones is enough, whichever place it has. */
  static void refusesOneStrangeAmongGood(String method) {
    Run run = new Run("one strange among good", 3, 2, 2);
    for (String literals : new String[] {"4 1 2 3", "1 -4 2 3", "1 2 4 3", "1 2 3 -4", "-4 4 -4 4"}) {
      run.same(method + " " + literals, TrimChecker.BAD);
    }
    run.due(method + " 1 2 3 -3", 0);
  }

  /** "The arguments are stored as given, including zeros, repeats and order." */
  static void storesAsGiven(String method) {
    new Run("zeros", 3, 4, 4)
        .add(0, method + " 0 -2 0 3", method + " 0 0 0 1", method + " 2 0 0 -1", method + " 0 0 0 0")
        .words(0, 0, -2, 0, 3).words(1, 0, 0, 0, 1).words(2, 2, 0, 0, -1).words(3, 0, 0, 0, 0);
    new Run("repeats", 3, 4, 4)
        .add(0, method + " 1 1 1 1", method + " -3 -3 0 -3", method + " 2 -2 2 -2")
        .words(0, 1, 1, 1, 1).words(1, -3, -3, 0, -3).words(2, 2, -2, 2, -2);
    new Run("order", 8, 4, 4)
        .add(0, method + " 4 3 2 1", method + " 1 2 3 4", method + " -8 8 7 -7")
        .words(0, 4, 3, 2, 1).words(1, 1, 2, 3, 4).words(2, -8, 8, 7, -7);
  }

  private static String in(String place, String method, int literal) {
    return method + " " + place.replace("x", String.valueOf(literal));
  }
}
