import java.util.ArrayList;
import java.util.Collections;
import java.util.List;
import java.util.Set;
import java.util.TreeSet;

/**
 * The document written down a second time, with sets and lists and as near to its words as can be,
 * so that TrimChecker can be compared with it.
 */
final class Model {
  private static final class Entry {
    final int kind;
    final int[] words;

    Entry(int kind, int... words) {
      this.kind = kind;
      this.words = words;
    }

    Set<Integer> literals() {
      Set<Integer> literals = new TreeSet<>();
      for (int word : words) {
        if (word != 0) {
          literals.add(word);
        }
      }
      return literals;
    }

    int pivot() {
      for (int word : words) {
        if (word != 0) {
          return word;
        }
      }
      return 0;
    }
  }

  private final int variables;
  private final int mostAxioms;
  private final int mostLines;
  private final List<Entry> axioms = new ArrayList<>();
  private final List<Entry> lines = new ArrayList<>();
  private final Set<Integer> marks = new TreeSet<>();
  private int phase = TrimChecker.BUILDING;
  private int cursor = 0;
  private int conflict = TrimChecker.NONE;

  Model(int variables, int axioms, int lines) {
    this.variables = Math.max(1, Math.min(8, variables));
    this.mostAxioms = Math.max(1, Math.min(12, axioms));
    this.mostLines = Math.max(1, Math.min(12, lines));
  }

  int axiom(int a, int b, int c, int d) {
    if (phase != TrimChecker.BUILDING || !lines.isEmpty()) return TrimChecker.WRONG_PHASE;
    if (bad(a, b, c, d)) return TrimChecker.BAD;
    if (axioms.size() == mostAxioms) return TrimChecker.FULL;
    axioms.add(new Entry(TrimChecker.AXIOM, a, b, c, d));
    return axioms.size() - 1;
  }

  int lemma(int a, int b, int c, int d) {
    if (phase != TrimChecker.BUILDING) return TrimChecker.WRONG_PHASE;
    if (bad(a, b, c, d)) return TrimChecker.BAD;
    return addLine(new Entry(TrimChecker.LEMMA, a, b, c, d));
  }

  int delete(int id) {
    if (phase != TrimChecker.BUILDING) return TrimChecker.WRONG_PHASE;
    if (!aliveAfter(lines.size()).contains(id)) return TrimChecker.BAD;
    return addLine(new Entry(TrimChecker.DELETION, id, 0, 0, 0));
  }

  private int addLine(Entry line) {
    if (lines.size() == mostLines) return TrimChecker.FULL;
    lines.add(line);
    cursor = lines.size();
    return axioms.size() + lines.size() - 1;
  }

  private boolean bad(int... literals) {
    for (int literal : literals) {
      if (Math.abs((long) literal) > variables) return true;
    }
    return false;
  }

  int seal() {
    if (phase != TrimChecker.BUILDING) return TrimChecker.WRONG_PHASE;
    for (int c = 0; c <= lines.size(); c++) {
      Set<Integer> alive = aliveAfter(c);
      if (refutes(alive, Set.of())) {
        keep(alive, List.of(Set.of()));
        conflict = c;
        cursor = c;
        phase = c == 0 ? TrimChecker.ACCEPTED : TrimChecker.CHECKING;
        return c;
      }
    }
    return TrimChecker.NO_CONFLICT;
  }

  int back() {
    if (phase != TrimChecker.CHECKING) return TrimChecker.WRONG_PHASE;
    int j = cursor - 1;
    int answer;
    if (lines.get(j).kind == TrimChecker.DELETION) {
      answer = TrimChecker.REVIVED;
    } else if (!marks.contains(axioms.size() + j)) {
      answer = TrimChecker.SKIPPED;
    } else {
      Set<Integer> alive = aliveAfter(j);
      answer = pass(lines.get(j), alive);
      if (answer == TrimChecker.NOT_PASSED) {
        phase = TrimChecker.REJECTED;
        return answer;
      }
      keep(alive, obligations(lines.get(j), alive, answer));
    }
    cursor = j;
    phase = j == 0 ? TrimChecker.ACCEPTED : TrimChecker.CHECKING;
    return answer;
  }

  int forward(int view) {
    if (view < 0 || view > 2) return TrimChecker.BAD;
    if (view != TrimChecker.WHOLE && phase != TrimChecker.ACCEPTED) return TrimChecker.WRONG_PHASE;
    Set<Integer> held = new TreeSet<>();
    for (int id = 0; id < axioms.size(); id++) {
      if (present(view, id)) held.add(id);
    }
    for (int j = 0; ; j++) {
      if (refutes(held, Set.of())) return j;
      if (j == lines.size()) return TrimChecker.NO_CONFLICT;
      int id = axioms.size() + j;
      if (lines.get(j).kind == TrimChecker.DELETION) {
        held.remove(lines.get(j).words[0]);
      } else if (present(view, id)) {
        if (pass(lines.get(j), held) == TrimChecker.NOT_PASSED) return TrimChecker.FAILS_AT + j;
        held.add(id);
      }
    }
  }

  int trimmed(int k) {
    if (phase != TrimChecker.ACCEPTED) return TrimChecker.WRONG_PHASE;
    List<Integer> trimmed = new ArrayList<>();
    for (int j = 0; j < conflict; j++) {
      int id = axioms.size() + j;
      boolean deletion = lines.get(j).kind == TrimChecker.DELETION;
      int clause = deletion ? lines.get(j).words[0] : id;
      if (marks.contains(clause) || (deletion && kind(clause) == TrimChecker.AXIOM)) trimmed.add(id);
    }
    return k < 0 || k >= trimmed.size() ? TrimChecker.BAD : trimmed.get(k);
  }

  int rewind(int count) {
    if (count < 0) axioms.clear();
    while (lines.size() > Math.max(0, count)) lines.remove(lines.size() - 1);
    marks.clear();
    conflict = TrimChecker.NONE;
    phase = TrimChecker.BUILDING;
    cursor = lines.size();
    return cursor;
  }

  int phase() {
    return phase;
  }

  int cursor() {
    return cursor;
  }

  int conflict() {
    return conflict;
  }

  boolean alive(int id) {
    return aliveAfter(cursor).contains(id);
  }

  boolean marked(int id) {
    return marks.contains(id);
  }

  int kind(int id) {
    return inText(id) ? entry(id).kind : TrimChecker.NOTHING;
  }

  int word(int id, int slot) {
    return inText(id) && slot >= 0 && slot <= 3 ? entry(id).words[slot] : 0;
  }

  boolean holds(int view, int assignment) {
    if (view < 0 || view > 2) return false;
    for (int id = 0; id < axioms.size(); id++) {
      if (present(view, id) && !satisfied(axioms.get(id), assignment)) return false;
    }
    return true;
  }

  private boolean satisfied(Entry clause, int assignment) {
    for (int literal : clause.literals()) {
      boolean variableIsTrue = (assignment >> (Math.abs(literal) - 1) & 1) == 1;
      if (variableIsTrue == literal > 0) return true;
    }
    return false;
  }

  private boolean inText(int id) {
    return id >= 0 && id < axioms.size() + lines.size();
  }

  private Entry entry(int id) {
    return id < axioms.size() ? axioms.get(id) : lines.get(id - axioms.size());
  }

  private boolean present(int view, int id) {
    if (view == TrimChecker.WHOLE) return true;
    return marks.contains(id) || (view == TrimChecker.TRIMMED && id < axioms.size());
  }

  private Set<Integer> aliveAfter(int k) {
    Set<Integer> alive = new TreeSet<>();
    for (int id = 0; id < axioms.size() + k; id++) {
      if (entry(id).kind != TrimChecker.DELETION) alive.add(id);
    }
    for (int j = 0; j < k; j++) {
      if (lines.get(j).kind == TrimChecker.DELETION) alive.remove(lines.get(j).words[0]);
    }
    return alive;
  }

  private boolean refutes(Set<Integer> clauses, Set<Integer> literals) {
    Set<Integer> falseOnes = new TreeSet<>(literals);
    for (int literal : literals) {
      if (literals.contains(-literal)) return true;
    }
    while (true) {
      Integer unit = null;
      for (int id : clauses) {
        Set<Integer> left = entry(id).literals();
        left.removeAll(falseOnes);
        if (left.isEmpty()) return true;
        boolean satisfied = left.stream().anyMatch(literal -> falseOnes.contains(-literal));
        // The last one found, so that the order is not the program's.
        if (!satisfied && left.size() == 1) unit = left.iterator().next();
      }
      if (unit == null) return false;
      falseOnes.add(-unit);
    }
  }

  /** How a lemma would pass after all present lines; not a call of the document, but a help in making good texts. */
  int wayAtTheEnd(int... words) {
    return pass(new Entry(TrimChecker.LEMMA, words), aliveAfter(lines.size()));
  }

  private int pass(Entry lemma, Set<Integer> clauses) {
    if (refutes(clauses, lemma.literals())) return TrimChecker.BY_RUP;
    if (lemma.literals().isEmpty()) return TrimChecker.NOT_PASSED;
    List<Set<Integer>> obligations = obligations(lemma, clauses, TrimChecker.BY_RAT);
    return refutesAll(clauses, obligations) ? TrimChecker.BY_RAT : TrimChecker.NOT_PASSED;
  }

  private List<Set<Integer>> obligations(Entry lemma, Set<Integer> clauses, int way) {
    if (way == TrimChecker.BY_RUP) return List.of(lemma.literals());
    List<Set<Integer>> obligations = new ArrayList<>();
    for (int id : clauses) {
      Set<Integer> united = entry(id).literals();
      if (united.remove(-lemma.pivot())) {
        united.addAll(lemma.literals());
        obligations.add(united);
      }
    }
    return obligations;
  }

  private boolean refutesAll(Set<Integer> clauses, List<Set<Integer>> obligations) {
    return obligations.stream().allMatch(obligation -> refutes(clauses, obligation));
  }

  private void keep(Set<Integer> clauses, List<Set<Integer>> obligations) {
    Set<Integer> kept = new TreeSet<>(clauses);
    List<Integer> ids = new ArrayList<>(clauses);
    Collections.reverse(ids);
    for (int id : ids) {
      if (marks.contains(id)) continue;
      kept.remove(id);
      if (!refutesAll(kept, obligations)) kept.add(id);
    }
    marks.addAll(kept);
  }
}
