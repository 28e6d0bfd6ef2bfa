import static java.util.Map.entry;

import com.sun.source.tree.ArrayAccessTree;
import com.sun.source.tree.ArrayTypeTree;
import com.sun.source.tree.AssignmentTree;
import com.sun.source.tree.BinaryTree;
import com.sun.source.tree.BlockTree;
import com.sun.source.tree.ClassTree;
import com.sun.source.tree.CompilationUnitTree;
import com.sun.source.tree.CompoundAssignmentTree;
import com.sun.source.tree.ExpressionStatementTree;
import com.sun.source.tree.ExpressionTree;
import com.sun.source.tree.ForLoopTree;
import com.sun.source.tree.IdentifierTree;
import com.sun.source.tree.LiteralTree;
import com.sun.source.tree.MethodInvocationTree;
import com.sun.source.tree.MethodTree;
import com.sun.source.tree.NewArrayTree;
import com.sun.source.tree.PrimitiveTypeTree;
import com.sun.source.tree.Tree;
import com.sun.source.tree.TypeCastTree;
import com.sun.source.tree.UnaryTree;
import com.sun.source.tree.VariableTree;
import com.sun.source.util.JavacTask;
import com.sun.source.util.TreeScanner;
import com.sun.source.util.Trees;
import java.io.IOException;
import java.net.URI;
import java.util.HashMap;
import java.util.HashSet;
import java.util.List;
import java.util.Map;
import java.util.Set;
import java.util.TreeSet;
import javax.lang.model.element.Modifier;
import javax.lang.model.type.TypeKind;
import javax.tools.DiagnosticCollector;
import javax.tools.JavaCompiler;
import javax.tools.JavaFileObject;
import javax.tools.SimpleJavaFileObject;
import javax.tools.ToolProvider;

/**
 * Looks at the source of one class for breaches of LANGUAGE.md. In some places it is stricter than the rules, where
 * the class can do without what they leave: arrays are only fields, and every loop is a for loop that counts.
 * Whether an index is always looked at before it is used (rule 7) can't be seen here.
 */
final class Language extends TreeScanner<Void, Void> {
  private static final int MOST_PARAMETERS = 7;
  private static final int MOST_LINES = 60;
  private static final int MOST_DEPTH = 6;
  private static final int MOST_FIELDS = 40;

  // The rule that forbids each kind of tree. Without a dot (MEMBER_SELECT) nothing of the library can be reached.
  private static final Map<Tree.Kind, Integer> FORBIDDEN = Map.ofEntries(
      entry(Tree.Kind.FLOAT_LITERAL, 2), entry(Tree.Kind.DOUBLE_LITERAL, 2), entry(Tree.Kind.STRING_LITERAL, 2),
      entry(Tree.Kind.MEMBER_SELECT, 3),
      entry(Tree.Kind.NULL_LITERAL, 4), entry(Tree.Kind.NEW_CLASS, 4),
      entry(Tree.Kind.THROW, 6), entry(Tree.Kind.TRY, 6), entry(Tree.Kind.SYNCHRONIZED, 6),
      entry(Tree.Kind.ASSERT, 6), entry(Tree.Kind.INSTANCE_OF, 6), entry(Tree.Kind.LAMBDA_EXPRESSION, 6),
      entry(Tree.Kind.MEMBER_REFERENCE, 6),
      entry(Tree.Kind.WHILE_LOOP, 8), entry(Tree.Kind.DO_WHILE_LOOP, 8), entry(Tree.Kind.ENHANCED_FOR_LOOP, 8));

  private final Trees trees;
  private final CompilationUnitTree unit;
  private final Set<String> breaches = new TreeSet<>();
  private final Set<String> arrayFields = new HashSet<>();
  private final Map<String, Set<String>> calls = new HashMap<>();
  private int fields = 0;
  private int classDepth = 0;
  private int argumentDepth = 0;
  private String currentMethod = null;

  private Language(Trees trees, CompilationUnitTree unit) {
    this.trees = trees;
    this.unit = unit;
  }

  /** Each breach begins with the number of its rule; what does not parse breaks rule 0. */
  static Set<String> breaches(String source) throws IOException {
    DiagnosticCollector<JavaFileObject> faults = new DiagnosticCollector<>();
    JavaCompiler compiler = ToolProvider.getSystemJavaCompiler();
    JavacTask task = (JavacTask) compiler.getTask(null, null, faults, null, null, List.of(asFile(source)));
    CompilationUnitTree unit = task.parse().iterator().next();
    if (!faults.getDiagnostics().isEmpty()) {
      return Set.of("0 does not parse: " + faults.getDiagnostics());
    }
    Language language = new Language(Trees.instance(task), unit);
    language.scan(unit, null);
    language.checkCallDepth();
    return language.breaches;
  }

  private static JavaFileObject asFile(String source) {
    return new SimpleJavaFileObject(URI.create("string:///Source.java"), JavaFileObject.Kind.SOURCE) {
      @Override
      public CharSequence getCharContent(boolean ignoreEncodingErrors) {
        return source;
      }
    };
  }

  private void tell(int rule, Tree where) {
    long line = unit.getLineMap().getLineNumber(trees.getSourcePositions().getStartPosition(unit, where));
    breaches.add(rule + " broken in line " + line + ": " + where.getKind());
  }

  private void tellIf(boolean broken, int rule, Tree where) {
    if (broken) {
      tell(rule, where);
    }
  }

  @Override
  public Void scan(Tree tree, Void none) {
    if (tree != null && FORBIDDEN.containsKey(tree.getKind())) {
      tell(FORBIDDEN.get(tree.getKind()), tree);
    }
    return super.scan(tree, none);
  }

  @Override
  public Void visitCompilationUnit(CompilationUnitTree tree, Void none) {
    tellIf(tree.getPackage() != null || tree.getTypeDecls().size() != 1, 1, tree);
    tellIf(!tree.getImports().isEmpty(), 3, tree);
    return super.visitCompilationUnit(tree, none);
  }

  @Override
  public Void visitClass(ClassTree tree, Void none) {
    Set<Modifier> flags = tree.getModifiers().getFlags();
    tellIf(classDepth > 0 || tree.getKind() != Tree.Kind.CLASS, 1, tree);
    tellIf(!flags.contains(Modifier.PUBLIC) || !flags.contains(Modifier.FINAL), 1, tree);
    tellIf(tree.getExtendsClause() != null || !tree.getImplementsClause().isEmpty(), 2, tree);
    for (Tree member : tree.getMembers()) {
      noteMember(member);
    }
    classDepth++;
    super.visitClass(tree, none);
    classDepth--;
    tellIf(fields > MOST_FIELDS, 10, tree);
    return null;
  }

  // Names are noted first, because a member may be used above the line that declares it.
  private void noteMember(Tree member) {
    if (member instanceof MethodTree) {
      String name = ((MethodTree) member).getName().toString();
      tellIf(calls.put(name, new HashSet<>()) != null, 1, member);
    } else if (member instanceof VariableTree) {
      checkField((VariableTree) member);
    } else {
      tellIf(member instanceof BlockTree, 5, member);
    }
  }

  private void checkField(VariableTree field) {
    Set<Modifier> flags = field.getModifiers().getFlags();
    if (field.getType() instanceof ArrayTypeTree) {
      arrayFields.add(field.getName().toString());
      tellIf(field.getInitializer() == null, 4, field);
    }
    if (!flags.contains(Modifier.STATIC)) {
      fields++;
      tellIf(!flags.contains(Modifier.PRIVATE), 1, field);
      return;
    }
    tellIf(!flags.contains(Modifier.PUBLIC) && !flags.contains(Modifier.PRIVATE), 1, field);
    tellIf(!flags.contains(Modifier.FINAL) || field.getInitializer() == null, 5, field);
    tellIf(!isPrimitive(field.getType(), TypeKind.INT) && !isPrimitive(field.getType(), TypeKind.LONG), 5, field);
  }

  private static boolean isPrimitive(Tree type, TypeKind kind) {
    return type instanceof PrimitiveTypeTree && ((PrimitiveTypeTree) type).getPrimitiveTypeKind() == kind;
  }

  @Override
  public Void visitMethod(MethodTree tree, Void none) {
    Set<Modifier> flags = tree.getModifiers().getFlags();
    tellIf(!flags.contains(Modifier.PUBLIC) && !flags.contains(Modifier.PRIVATE), 1, tree);
    tellIf(tree.getReturnType() != null && !(tree.getReturnType() instanceof PrimitiveTypeTree), 4, tree);
    tellIf(tree.getParameters().size() > MOST_PARAMETERS, 10, tree);
    tellIf(linesOf(tree) > MOST_LINES, 10, tree);
    currentMethod = tree.getName().toString();
    super.visitMethod(tree, none);
    currentMethod = null;
    return null;
  }

  private long linesOf(Tree tree) {
    long start = trees.getSourcePositions().getStartPosition(unit, tree);
    long end = trees.getSourcePositions().getEndPosition(unit, tree);
    return unit.getLineMap().getLineNumber(end) - unit.getLineMap().getLineNumber(start) + 1;
  }

  @Override
  public Void visitVariable(VariableTree tree, Void none) {
    Tree type = tree.getType();
    if (type instanceof ArrayTypeTree) {
      tellIf(currentMethod != null, 4, tree);
      type = ((ArrayTypeTree) type).getType();
    }
    tellIf(!(type instanceof PrimitiveTypeTree), 2, tree);
    return super.visitVariable(tree, none);
  }

  @Override
  public Void visitPrimitiveType(PrimitiveTypeTree tree, Void none) {
    TypeKind kind = tree.getPrimitiveTypeKind();
    tellIf(kind == TypeKind.FLOAT || kind == TypeKind.DOUBLE, 2, tree);
    return null;
  }

  @Override
  public Void visitMethodInvocation(MethodInvocationTree tree, Void none) {
    tellIf(argumentDepth > 0, 10, tree);
    String name = nameOf(tree.getMethodSelect());
    boolean own = calls.containsKey(name);
    boolean ofObject = tree.getMethodSelect() instanceof IdentifierTree && !own;
    tellIf(ofObject, 3, tree);
    tellIf(currentMethod == null, 4, tree);
    if (own && currentMethod != null) {
      calls.get(currentMethod).add(name);
    }
    scan(tree.getMethodSelect(), none);
    argumentDepth++;
    scan(tree.getArguments(), none);
    argumentDepth--;
    return null;
  }

  private static String nameOf(Tree tree) {
    return tree instanceof IdentifierTree ? ((IdentifierTree) tree).getName().toString() : "";
  }

  // An array's name that stands for anything but an access would hand it on, compare it or change it for another.
  @Override
  public Void visitIdentifier(IdentifierTree tree, Void none) {
    tellIf(arrayFields.contains(nameOf(tree)), 4, tree);
    return null;
  }

  @Override
  public Void visitArrayAccess(ArrayAccessTree tree, Void none) {
    tellIf(!arrayFields.contains(nameOf(tree.getExpression())), 4, tree);
    return scan(tree.getIndex(), none);
  }

  @Override
  public Void visitNewArray(NewArrayTree tree, Void none) {
    boolean oneLength = tree.getInitializers() == null && tree.getDimensions().size() == 1;
    tellIf(currentMethod != null || !oneLength || !isLength(tree.getDimensions().get(0)), 4, tree);
    return super.visitNewArray(tree, none);
  }

  private static boolean isLength(ExpressionTree tree) {
    if (tree instanceof LiteralTree) {
      Object value = ((LiteralTree) tree).getValue();
      return value instanceof Integer && (Integer) value > 0;
    }
    return nameOf(tree).matches("[A-Z][A-Z_]*");
  }

  @Override
  public Void visitTypeCast(TypeCastTree tree, Void none) {
    tellIf(!(tree.getType() instanceof PrimitiveTypeTree), 6, tree);
    return super.visitTypeCast(tree, none);
  }

  @Override
  public Void visitBinary(BinaryTree tree, Void none) {
    boolean divides = tree.getKind() == Tree.Kind.DIVIDE || tree.getKind() == Tree.Kind.REMAINDER;
    tellIf(divides && !isLength(tree.getRightOperand()), 7, tree);
    return super.visitBinary(tree, none);
  }

  @Override
  public Void visitCompoundAssignment(CompoundAssignmentTree tree, Void none) {
    Tree.Kind kind = tree.getKind();
    boolean divides = kind == Tree.Kind.DIVIDE_ASSIGNMENT || kind == Tree.Kind.REMAINDER_ASSIGNMENT;
    tellIf(divides && !isLength(tree.getExpression()), 7, tree);
    return super.visitCompoundAssignment(tree, none);
  }

  @Override
  public Void visitForLoop(ForLoopTree tree, Void none) {
    boolean oneStep = tree.getInitializer().size() == 1 && tree.getUpdate().size() == 1;
    tellIf(!oneStep || !countsToABound(tree), 8, tree);
    return super.visitForLoop(tree, none);
  }

  private static boolean countsToABound(ForLoopTree loop) {
    if (!(loop.getInitializer().get(0) instanceof VariableTree) || !(loop.getCondition() instanceof BinaryTree)) {
      return false;
    }
    String counter = ((VariableTree) loop.getInitializer().get(0)).getName().toString();
    BinaryTree condition = (BinaryTree) loop.getCondition();
    Tree.Kind compared = condition.getKind();
    boolean below = compared == Tree.Kind.LESS_THAN || compared == Tree.Kind.LESS_THAN_EQUAL;
    boolean above = compared == Tree.Kind.GREATER_THAN || compared == Tree.Kind.GREATER_THAN_EQUAL;
    ExpressionTree step = ((ExpressionStatementTree) loop.getUpdate().get(0)).getExpression();
    boolean rises = step.getKind() == Tree.Kind.POSTFIX_INCREMENT;
    boolean falls = step.getKind() == Tree.Kind.POSTFIX_DECREMENT;
    ExpressionTree bound = condition.getRightOperand();
    return (below && rises || above && falls)
        && nameOf(condition.getLeftOperand()).equals(counter)
        && nameOf(((UnaryTree) step).getExpression()).equals(counter)
        && (bound instanceof LiteralTree || bound instanceof IdentifierTree)
        && !changes(loop.getStatement(), Set.of(counter, nameOf(bound)));
  }

  private static boolean changes(Tree body, Set<String> names) {
    boolean[] found = new boolean[1];
    new TreeScanner<Void, Void>() {
      @Override
      public Void visitAssignment(AssignmentTree tree, Void none) {
        found[0] |= names.contains(nameOf(tree.getVariable()));
        return super.visitAssignment(tree, none);
      }

      @Override
      public Void visitCompoundAssignment(CompoundAssignmentTree tree, Void none) {
        found[0] |= names.contains(nameOf(tree.getVariable()));
        return super.visitCompoundAssignment(tree, none);
      }

      @Override
      public Void visitUnary(UnaryTree tree, Void none) {
        boolean steps = tree.getKind().name().endsWith("CREMENT");
        found[0] |= steps && names.contains(nameOf(tree.getExpression()));
        return super.visitUnary(tree, none);
      }
    }.scan(body, null);
    return found[0];
  }

  // Methods without calls have depth 1, their callers 2; a method that calls itself never gets a depth.
  private void checkCallDepth() {
    Map<String, Integer> depths = new HashMap<>();
    for (int depth = 1; depth <= calls.size(); depth++) {
      Map<String, Integer> found = new HashMap<>();
      for (String method : calls.keySet()) {
        if (!depths.containsKey(method) && depths.keySet().containsAll(calls.get(method))) {
          found.put(method, depth);
        }
      }
      depths.putAll(found);
    }
    for (String method : calls.keySet()) {
      if (!depths.containsKey(method)) {
        breaches.add("8 broken: recursion in or below " + method);
      } else if (depths.get(method) > MOST_DEPTH) {
        breaches.add("10 broken: calls go too deep in " + method);
      }
    }
  }
}
