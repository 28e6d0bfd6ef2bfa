/*
 * Sets are kept as bits of one int, so that no method has to make an array:
 * in a set of literals bit v-1 stands for v and bit v-1+8 for -v;
 * in a set of clauses bit id stands for the clause with that id.
 */
public final class TrimChecker {

  public static final int BUILDING = 0;
  public static final int CHECKING = 1;
  public static final int ACCEPTED = 2;
  public static final int REJECTED = 3;

  public static final int NONE = -1;
  public static final int BAD = -2;
  public static final int FULL = -3;
  public static final int NO_CONFLICT = -4;
  public static final int WRONG_PHASE = -5;

  public static final int REVIVED = 1;
  public static final int SKIPPED = 2;
  public static final int BY_RUP = 3;
  public static final int BY_RAT = 4;
  public static final int NOT_PASSED = 5;

  public static final int WHOLE = 0;
  public static final int TRIMMED = 1;
  public static final int CORE = 2;

  public static final int NOTHING = 0;
  public static final int AXIOM = 1;
  public static final int LEMMA = 2;
  public static final int DELETION = 3;

  public static final int FAILS_AT = 100;

  private static final int MOST_VARIABLES = 8;
  private static final int MOST_AXIOMS = 12;
  private static final int MOST_LINES = 12;
  private static final int MOST_IDS = MOST_AXIOMS + MOST_LINES;
  private static final int SLOTS = 4;
  private static final int MOST_WORDS = MOST_IDS * SLOTS;
  private static final int POSITIVE_LITERALS = (1 << MOST_VARIABLES) - 1;
  private static final int NO_LITERALS = 0;

  private final int variableCount;
  private final int axiomLimit;
  private final int lineLimit;

  private final int[] words = new int[MOST_WORDS];
  private final int[] kinds = new int[MOST_IDS];
  private final int[] literalSets = new int[MOST_IDS];
  private int axiomCount = 0;
  private int lineCount = 0;

  private int currentPhase = BUILDING;
  private int cursorLine = 0;
  private int conflictPoint = NONE;
  private int markedSet = 0;

  // Filled and used up within one public call: no part of the state.
  private final int[] obligations = new int[MOST_IDS];
  private int obligationCount = 0;

  public TrimChecker(int variables, int axioms, int lines) {
    variableCount = clamp(variables, MOST_VARIABLES);
    axiomLimit = clamp(axioms, MOST_AXIOMS);
    lineLimit = clamp(lines, MOST_LINES);
  }

  public int axiom(int a, int b, int c, int d) {
    if (currentPhase != BUILDING || lineCount > 0) {
      return WRONG_PHASE;
    }
    if (anyOutOfRange(a, b, c, d)) {
      return BAD;
    }
    if (axiomCount >= axiomLimit) {
      return FULL;
    }
    int id = axiomCount;
    store(id, AXIOM, a, b, c, d);
    literalSets[id] = setOfLiterals(a, b, c, d);
    axiomCount++;
    return id;
  }

  public int lemma(int a, int b, int c, int d) {
    if (currentPhase != BUILDING) {
      return WRONG_PHASE;
    }
    if (anyOutOfRange(a, b, c, d)) {
      return BAD;
    }
    if (lineCount >= lineLimit) {
      return FULL;
    }
    int id = axiomCount + lineCount;
    store(id, LEMMA, a, b, c, d);
    literalSets[id] = setOfLiterals(a, b, c, d);
    countNewLine();
    return id;
  }

  public int delete(int id) {
    if (currentPhase != BUILDING) {
      return WRONG_PHASE;
    }
    int aliveSet = aliveAfter(lineCount);
    if (!hasMember(aliveSet, id)) {
      return BAD;
    }
    if (lineCount >= lineLimit) {
      return FULL;
    }
    int ownId = axiomCount + lineCount;
    store(ownId, DELETION, id, 0, 0, 0);
    countNewLine();
    return ownId;
  }

  public int seal() {
    if (currentPhase != BUILDING) {
      return WRONG_PHASE;
    }
    int point = firstConflict();
    if (point == NONE) {
      return NO_CONFLICT;
    }
    int aliveSet = aliveAfter(point);
    obligeOnly(NO_LITERALS);
    keep(aliveSet);
    conflictPoint = point;
    currentPhase = CHECKING;
    moveCursorBackTo(point);
    return point;
  }

  public int back() {
    if (currentPhase != CHECKING) {
      return WRONG_PHASE;
    }
    int line = cursorLine - 1;
    int id = axiomCount + line;
    int answer = kinds[id] == DELETION ? REVIVED : SKIPPED;
    if (hasMember(markedSet, id)) {
      int aliveSet = aliveAfter(line);
      answer = wayOfPassing(id, aliveSet);
      if (answer == NOT_PASSED) {
        currentPhase = REJECTED;
        return NOT_PASSED;
      }
      keep(aliveSet);
    }
    moveCursorBackTo(line);
    return answer;
  }

  public int forward(int view) {
    if (!isView(view)) {
      return BAD;
    }
    if (view != WHOLE && currentPhase != ACCEPTED) {
      return WRONG_PHASE;
    }
    int presentSet = presentIn(view);
    int heldSet = presentSet & allAxioms();
    for (int line = 0; line < lineCount; line++) {
      if (refutes(heldSet, NO_LITERALS)) {
        return line;
      }
      int id = axiomCount + line;
      if (kinds[id] == DELETION) {
        heldSet &= ~(1 << targetOf(id));
      } else if (hasMember(presentSet, id)) {
        if (wayOfPassing(id, heldSet) == NOT_PASSED) {
          return FAILS_AT + line;
        }
        heldSet |= 1 << id;
      }
    }
    return refutes(heldSet, NO_LITERALS) ? lineCount : NO_CONFLICT;
  }

  public int trimmed(int k) {
    if (currentPhase != ACCEPTED) {
      return WRONG_PHASE;
    }
    int seen = 0;
    for (int line = 0; line < conflictPoint; line++) {
      int id = axiomCount + line;
      if (isRelevant(id)) {
        if (seen == k) {
          return id;
        }
        seen++;
      }
    }
    return BAD;
  }

  public int rewind(int lines) {
    if (lines < 0) {
      axiomCount = 0;
      lineCount = 0;
    } else if (lines < lineCount) {
      lineCount = lines;
    }
    currentPhase = BUILDING;
    markedSet = 0;
    conflictPoint = NONE;
    cursorLine = lineCount;
    return cursorLine;
  }

  public int phase() {
    return currentPhase;
  }

  public int cursor() {
    return cursorLine;
  }

  public int conflict() {
    return conflictPoint;
  }

  public boolean alive(int id) {
    int aliveSet = aliveAfter(cursorLine);
    return hasMember(aliveSet, id);
  }

  public boolean marked(int id) {
    return hasMember(markedSet, id);
  }

  public int kind(int id) {
    return isInText(id) ? kinds[id] : NOTHING;
  }

  public int word(int id, int slot) {
    if (!isInText(id) || slot < 0 || slot >= SLOTS) {
      return 0;
    }
    return words[id * SLOTS + slot];
  }

  public boolean holds(int view, int assignment) {
    if (!isView(view)) {
      return false;
    }
    int presentSet = presentIn(view);
    int trueSet = trueLiterals(assignment);
    for (int id = 0; id < axiomCount; id++) {
      if (hasMember(presentSet, id) && (literalSets[id] & trueSet) == 0) {
        return false;
      }
    }
    return true;
  }

  private static int clamp(int value, int greatest) {
    if (value < 1) {
      return 1;
    }
    return value > greatest ? greatest : value;
  }

  private static boolean isView(int view) {
    return view == WHOLE || view == TRIMMED || view == CORE;
  }

  // A shift takes its distance modulo 32, so a strange id must not reach it.
  private static boolean hasMember(int clauseSet, int id) {
    return id >= 0 && id < MOST_IDS && (clauseSet & (1 << id)) != 0;
  }

  private static int literalBit(int literal) {
    if (literal == 0) {
      return NO_LITERALS;
    }
    return literal > 0 ? 1 << (literal - 1) : 1 << (MOST_VARIABLES - literal - 1);
  }

  private static int setOfLiterals(int a, int b, int c, int d) {
    return literalBit(a) | literalBit(b) | literalBit(c) | literalBit(d);
  }

  private static int negated(int literals) {
    int positive = literals & POSITIVE_LITERALS;
    int negative = (literals >> MOST_VARIABLES) & POSITIVE_LITERALS;
    return (positive << MOST_VARIABLES) | negative;
  }

  private boolean isOutOfRange(int argument) {
    return argument < -variableCount || argument > variableCount;
  }

  private boolean anyOutOfRange(int a, int b, int c, int d) {
    return isOutOfRange(a) || isOutOfRange(b) || isOutOfRange(c) || isOutOfRange(d);
  }

  private boolean isInText(int id) {
    return id >= 0 && id < axiomCount + lineCount;
  }

  private void store(int id, int newKind, int a, int b, int c, int d) {
    kinds[id] = newKind;
    words[id * SLOTS] = a;
    words[id * SLOTS + 1] = b;
    words[id * SLOTS + 2] = c;
    words[id * SLOTS + 3] = d;
  }

  private void countNewLine() {
    lineCount++;
    cursorLine = lineCount;
  }

  private int targetOf(int deletion) {
    return words[deletion * SLOTS];
  }

  private int pivotBit(int clause) {
    for (int slot = 0; slot < SLOTS; slot++) {
      int literal = words[clause * SLOTS + slot];
      if (literal != 0) {
        return literalBit(literal);
      }
    }
    return NO_LITERALS;
  }

  private int trueLiterals(int assignment) {
    int known = (1 << variableCount) - 1;
    int positive = assignment & known;
    int negative = ~assignment & known;
    return positive | (negative << MOST_VARIABLES);
  }

  private int allAxioms() {
    return (1 << axiomCount) - 1;
  }

  private int presentIn(int view) {
    if (view == CORE) {
      return markedSet;
    }
    return view == TRIMMED ? allAxioms() | markedSet : (1 << MOST_IDS) - 1;
  }

  private int aliveAfter(int lines) {
    int aliveSet = allAxioms();
    for (int line = 0; line < lines; line++) {
      int id = axiomCount + line;
      if (kinds[id] == DELETION) {
        aliveSet &= ~(1 << targetOf(id));
      } else {
        aliveSet |= 1 << id;
      }
    }
    return aliveSet;
  }

  private boolean isRelevant(int lineId) {
    if (kinds[lineId] == LEMMA) {
      return hasMember(markedSet, lineId);
    }
    int target = targetOf(lineId);
    return target < axiomCount || hasMember(markedSet, target);
  }

  private int firstConflict() {
    for (int lines = 0; lines <= lineCount; lines++) {
      int aliveSet = aliveAfter(lines);
      if (refutes(aliveSet, NO_LITERALS)) {
        return lines;
      }
    }
    return NONE;
  }

  private void moveCursorBackTo(int line) {
    cursorLine = line;
    if (line == 0) {
      currentPhase = ACCEPTED;
    }
  }

  // Leaves the lemma's obligations behind, because keeping needs the same ones.
  private int wayOfPassing(int lemmaId, int clauseSet) {
    int literals = literalSets[lemmaId];
    obligeOnly(literals);
    if (refutesAllObligations(clauseSet)) {
      return BY_RUP;
    }
    if (literals == NO_LITERALS) {
      return NOT_PASSED;
    }
    obligePivotPartners(lemmaId, clauseSet);
    return refutesAllObligations(clauseSet) ? BY_RAT : NOT_PASSED;
  }

  private void obligeOnly(int literals) {
    obligations[0] = literals;
    obligationCount = 1;
  }

  private void obligePivotPartners(int lemmaId, int clauseSet) {
    int pivot = pivotBit(lemmaId);
    int partner = negated(pivot);
    obligationCount = 0;
    for (int id = 0; id < MOST_IDS; id++) {
      if (hasMember(clauseSet, id) && (literalSets[id] & partner) != 0) {
        obligations[obligationCount] = literalSets[lemmaId] | (literalSets[id] & ~partner);
        obligationCount++;
      }
    }
  }

  private boolean refutesAllObligations(int clauseSet) {
    for (int i = 0; i < obligationCount; i++) {
      if (!refutes(clauseSet, obligations[i])) {
        return false;
      }
    }
    return true;
  }

  private void keep(int clauseSet) {
    int keptSet = clauseSet;
    for (int id = MOST_IDS - 1; id >= 0; id--) {
      if (hasMember(clauseSet, id) && !hasMember(markedSet, id)) {
        int smallerSet = keptSet & ~(1 << id);
        if (refutesAllObligations(smallerSet)) {
          keptSet = smallerSet;
        }
      }
    }
    markedSet |= keptSet;
  }

  private boolean refutes(int clauseSet, int literals) {
    int falseSet = literals;
    int trueSet = negated(literals);
    if ((falseSet & trueSet) != 0) {
      return true;
    }
    // Every round but the last assigns a variable, so one round more than there are variables is enough.
    for (int round = 0; round <= MOST_VARIABLES; round++) {
      boolean assigned = false;
      for (int id = 0; id < MOST_IDS; id++) {
        int open = literalSets[id] & ~falseSet;
        if (!hasMember(clauseSet, id) || (open & trueSet) != 0) {
          continue;
        }
        if (open == NO_LITERALS) {
          return true;
        }
        if ((open & (open - 1)) == 0) {
          trueSet |= open;
          falseSet |= negated(open);
          assigned = true;
        }
      }
      if (!assigned) {
        return false;
      }
    }
    return false;
  }
}
