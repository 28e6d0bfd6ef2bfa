import java.util.ArrayList;
import java.util.List;
import java.util.Map;
import java.util.TreeMap;

/** Many runs of calls, the same on TrimChecker and on Model; every answer and all that can be asked must agree. */
public final class ModelTest {
  private static final int RUNS = 1000;
  private static final int[] STRANGE = {-1, -9, 9, 13, 24, 32, 100, Integer.MIN_VALUE, Integer.MAX_VALUE};

  // How often each case was met: a comparison that never meets a case says nothing of it.
  private static final Map<String, Integer> met = new TreeMap<>();
  private static long seed = 20261115L;

  private int variables;
  private TrimChecker checker;
  private Model model;
  private final List<String> calls = new ArrayList<>();

  public static void main(String[] args) {
    for (int run = 0; run < RUNS; run++) {
      if (!new ModelTest().run()) {
        break;
      }
    }
    for (String event : new String[] {
      "seal 0", "seal 1", "seal 5", "seal -4", "seal -5", "back 1", "back 2", "back 3", "back 4", "back 5", "back -5",
      "axiom -2", "axiom -3", "axiom -5", "lemma -2", "lemma -3", "lemma -5", "delete -2", "delete -3", "delete -5",
      "rat marks", "accepted", "trimmed 3", "forward fails", "forward conflict"
    }) {
      if (met.getOrDefault(event, 0) < 5) {
        Run.tellWrong("hardly met: " + event);
      }
    }
    Run.end();
  }

  private static int below(int bound) {
    seed = seed * 6364136223846793005L + 1442695040888963407L;
    return (int) ((seed >>> 33) % bound);
  }

  private boolean run() {
    variables = 1 + below(below(4) == 0 ? 8 : 4);
    int mostAxioms = below(3) == 0 ? 1 + below(12) : 12;
    int mostLines = below(3) == 0 ? 1 + below(12) : 12;
    checker = new TrimChecker(variables, mostAxioms, mostLines);
    model = new Model(variables, mostAxioms, mostLines);
    calls.add("new " + variables + " " + mostAxioms + " " + mostLines);
    boolean agreed = true;
    for (int life = 0; life < 3 && agreed; life++) {
      agreed = oneLife();
    }
    return agreed;
  }

  /** From building to the end of checking, and back to building. */
  private boolean oneLife() {
    if (!addAxioms() || !addLines() || !agree("seal") || !sameOutside()) return false;
    while (checker.phase() == TrimChecker.CHECKING && below(30) > 0) {
      if (below(12) == 0 && !agree(anyCall())) return false;
      if (!agreeOnBack()) return false;
    }
    if (below(4) == 0 && !agree(anyCall())) return false;
    return meetEnd() && agree("rewind " + (below(4) - 1 + below(2) * below(12))) && sameOutside();
  }

  /** Often all clauses over a few variables, which contradict each other without a unit clause. */
  private boolean addAxioms() {
    int core = below(4) == 0 ? 0 : Math.min(variables, 2 + below(2));
    int shift = below(variables);
    for (int signs = 0; core > 0 && signs < 1 << core; signs++) {
      StringBuilder call = new StringBuilder("axiom");
      for (int i = 0; i < core; i++) {
        int variable = 1 + (shift + i) % variables;
        call.append(' ').append((signs >> i & 1) == 0 ? variable : -variable);
      }
      if (below(4) == 0 && !agree("axiom" + clause(2 + below(3)))) return false;
      if (below(20) > 0 && !agree(call.toString())) return false;
    }
    for (int i = below(core == 0 ? 12 : 4); i > 0; i--) {
      if (!agree("axiom" + clause(1 + below(4)))) return false;
    }
    return true;
  }

  private boolean addLines() {
    int wanted = below(14);
    for (int i = 0; i < wanted; i++) {
      boolean deletion = below(4) == 0;
      if (!agree(deletion ? "delete " + anyId() : "lemma" + usefulClause())) return false;
    }
    return true;
  }

  /** Mostly a clause that passes, if possible by RAT: otherwise nearly no text would be accepted. */
  private String usefulClause() {
    String chosen = clause(below(20) == 0 ? 0 : 1 + below(2));
    int wanted = below(3) == 0 ? TrimChecker.BY_RUP : TrimChecker.BY_RAT;
    for (int i = below(12) == 0 ? 0 : 30; i > 0; i--) {
      String candidate = clause(1 + below(3));
      int way = wayAtTheEnd(candidate);
      if (way == wanted) return candidate;
      if (way != TrimChecker.NOT_PASSED) chosen = candidate;
    }
    return chosen;
  }

  private int wayAtTheEnd(String clause) {
    String[] words = clause.trim().split(" ");
    int[] literals = new int[words.length];
    for (int i = 0; i < words.length; i++) {
      literals[i] = Integer.parseInt(words[i]);
    }
    return model.wayAtTheEnd(literals);
  }

  private boolean agreeOnBack() {
    long marksBefore = marks();
    if (!agree("back") || !sameOutside()) return false;
    if (calls.get(calls.size() - 1).equals("back = 4") && marks() > marksBefore) meet("rat marks");
    return true;
  }

  private boolean meetEnd() {
    int forward = checker.forward(TrimChecker.WHOLE);
    meet(forward >= TrimChecker.FAILS_AT ? "forward fails" : forward >= 0 ? "forward conflict" : "forward none");
    if (checker.phase() == TrimChecker.ACCEPTED) {
      if (checker.conflict() > 0) meet("accepted");
      if (checker.trimmed(2) >= 0) meet("trimmed 3");
      // The document's terms make this so: what is kept is enough for the same conflict.
      if (checker.forward(TrimChecker.TRIMMED) != checker.conflict()
          || checker.forward(TrimChecker.CORE) != checker.conflict()) {
        return disagree("a trimmed view does not lead to the conflict point");
      }
      for (int assignment = 0; assignment < 1 << variables; assignment++) {
        if (checker.holds(TrimChecker.CORE, assignment)) {
          return disagree("the core is satisfied by " + assignment);
        }
      }
    }
    return true;
  }

  private long marks() {
    long count = 0;
    for (int id = 0; id < 24; id++) {
      count += checker.marked(id) ? 1 : 0;
    }
    return count;
  }

  private String anyCall() {
    switch (below(7)) {
      case 0: return "axiom" + clause(2);
      case 1: return "lemma" + clause(2);
      case 2: return "delete " + anyId();
      case 3: return "seal";
      case 4: return "back";
      case 5: return "forward " + STRANGE[below(STRANGE.length)];
      default: return "trimmed " + STRANGE[below(STRANGE.length)];
    }
  }

  private int anyId() {
    return below(8) == 0 ? STRANGE[below(STRANGE.length)] : below(24);
  }

  /** Four places with at most the given number of literals, often the same variable twice and zeros between. */
  private String clause(int literals) {
    int[] places = new int[4];
    for (int i = 0; i < literals; i++) {
      int literal = 1 + below(variables);
      places[below(2) == 0 ? i : below(4)] = below(2) == 0 ? literal : -literal;
    }
    if (below(30) == 0) {
      places[below(4)] = STRANGE[below(STRANGE.length)];
    }
    return " " + places[0] + " " + places[1] + " " + places[2] + " " + places[3];
  }

  private boolean agree(String call) {
    int got = Calls.answer(checker, call);
    int want = Calls.answer(model, call);
    calls.add(call + " = " + want);
    meet(call.split(" ")[0] + " " + want);
    return got == want || disagree("the last call answered " + got);
  }

  private boolean sameOutside() {
    String difference = Calls.difference(Calls.snapshot(checker), Calls.snapshot(model));
    return difference.isEmpty() || disagree("afterwards " + difference);
  }

  private boolean disagree(String what) {
    Run.tellWrong(String.join("\n", calls) + "\n" + what);
    return false;
  }

  private static void meet(String event) {
    met.merge(event, 1, Integer::sum);
  }
}
