import com.sun.source.tree.BinaryTree;
import com.sun.source.tree.BlockTree;
import com.sun.source.tree.ClassTree;
import com.sun.source.tree.CompilationUnitTree;
import com.sun.source.tree.CompoundAssignmentTree;
import com.sun.source.tree.DoWhileLoopTree;
import com.sun.source.tree.ExpressionTree;
import com.sun.source.tree.ForLoopTree;
import com.sun.source.tree.ImportTree;
import com.sun.source.tree.LiteralTree;
import com.sun.source.tree.MemberSelectTree;
import com.sun.source.tree.MethodInvocationTree;
import com.sun.source.tree.MethodTree;
import com.sun.source.tree.NewArrayTree;
import com.sun.source.tree.NewClassTree;
import com.sun.source.tree.ParenthesizedTree;
import com.sun.source.tree.ThrowTree;
import com.sun.source.tree.Tree;
import com.sun.source.tree.Tree.Kind;
import com.sun.source.tree.TypeCastTree;
import com.sun.source.tree.VariableTree;
import com.sun.source.tree.WhileLoopTree;
import com.sun.source.util.TreePath;
import com.sun.source.util.TreePathScanner;
import com.sun.source.util.Trees;
import java.util.ArrayList;
import java.util.HashSet;
import java.util.LinkedHashMap;
import java.util.LinkedHashSet;
import java.util.List;
import java.util.Map;
import java.util.Set;
import javax.lang.model.element.Element;
import javax.lang.model.element.ElementKind;
import javax.lang.model.element.ExecutableElement;
import javax.lang.model.element.Modifier;
import javax.lang.model.element.TypeElement;
import javax.lang.model.element.VariableElement;
import javax.lang.model.type.ArrayType;
import javax.lang.model.type.DeclaredType;
import javax.lang.model.type.TypeKind;
import javax.lang.model.type.TypeMirror;

/**
 * Walks through the program as the compiler sees it and notes what breaches a rule of LANGUAGE.md.
 * Where a rule allows something within limits that the program goes without (try, instanceof,
 * lists, recursion), all of it counts as a breach, since the limits need not be looked at then.
 */
final class LanguageRules extends TreePathScanner<Void, Void> {
  private static final String PROGRAM = "DroneLightShow";
  private static final int MOST_PARAMETERS = 7;
  private static final int MOST_LINES = 60;
  private static final int MOST_CALLS_DEEP = 8;
  private static final int MOST_CLASSES = 12;
  private static final int MOST_FIELDS = 20;

  private static final Map<Kind, Integer> BANNED =
      Map.of(
          Kind.LAMBDA_EXPRESSION, 2,
          Kind.MEMBER_REFERENCE, 2,
          Kind.TRY, 6,
          Kind.ASSERT, 6,
          Kind.SYNCHRONIZED, 6,
          Kind.INSTANCE_OF, 6);

  private static final Set<String> LIBRARY =
      Set.of(
          "java.lang.String.length",
          "java.lang.String.charAt",
          "java.lang.Math.abs",
          "java.lang.Math.max",
          "java.lang.Math.min",
          "java.lang.Long.bitCount");

  private static final Set<String> EXCEPTIONS =
      Set.of(
          "IllegalStateException",
          "IllegalArgumentException",
          "IndexOutOfBoundsException",
          "ArithmeticException",
          "UnsupportedOperationException",
          "NoSuchElementException",
          "RuntimeException");

  private static final Set<TypeKind> CONSTANTS =
      Set.of(TypeKind.INT, TypeKind.LONG, TypeKind.BOOLEAN, TypeKind.CHAR);

  private static final Set<Kind> ORDERINGS =
      Set.of(Kind.LESS_THAN, Kind.LESS_THAN_EQUAL, Kind.GREATER_THAN, Kind.GREATER_THAN_EQUAL);

  final List<String> breaches = new ArrayList<>();
  int nodes;

  private final Trees trees;
  private final CompilationUnitTree unit;
  private final Map<Element, Set<Element>> calls = new LinkedHashMap<>();
  private int classes;
  /** The method that is being walked through, or null between methods. */
  private Element method;

  LanguageRules(Trees trees, CompilationUnitTree unit) {
    this.trees = trees;
    this.unit = unit;
  }

  private void note(int rule, String what, Tree where) {
    breaches.add(rule + ", line " + lineOf(start(where)) + ": " + what);
  }

  private long start(Tree tree) {
    return trees.getSourcePositions().getStartPosition(unit, tree);
  }

  private long lineOf(long position) {
    return position < 0 ? 0 : unit.getLineMap().getLineNumber(position);
  }

  private Element element(Tree tree) {
    return trees.getElement(new TreePath(getCurrentPath(), tree));
  }

  private TypeMirror type(Tree tree) {
    return trees.getTypeMirror(new TreePath(getCurrentPath(), tree));
  }

  private static boolean isOwn(Element element) {
    return element != null && element.toString().startsWith(PROGRAM);
  }

  private static boolean isString(TypeMirror type) {
    return type != null && type.toString().equals("java.lang.String");
  }

  // ---- the whole text

  /** Rule 4: no sign beyond 127, and none written by its code that a text or a character may not hold. */
  void checkSigns(String text) {
    for (int k = 0; k < text.length(); k++) {
      if (text.charAt(k) > 127) {
        breaches.add("4: a sign that is not of 1 to 127");
      }
    }
    if (text.contains("\\u")) {
      breaches.add("4: a sign written as a Unicode escape");
    }
  }

  @Override
  public Void scan(Tree tree, Void unused) {
    if (tree != null) {
      nodes++;
      if (BANNED.containsKey(tree.getKind())) {
        note(BANNED.get(tree.getKind()), tree.getKind().toString(), tree);
      }
    }
    return super.scan(tree, unused);
  }

  @Override
  public Void visitImport(ImportTree tree, Void unused) {
    if (!tree.getQualifiedIdentifier().toString().equals("java.util.NoSuchElementException")) {
      note(4, tree.toString().strip(), tree);
    }
    return null;
  }

  // ---- classes, methods, variables

  @Override
  public Void visitClass(ClassTree tree, Void unused) {
    TypeElement type = (TypeElement) trees.getElement(getCurrentPath());
    Set<Modifier> modifiers = type.getModifiers();
    classes++;
    if (classes > MOST_CLASSES) {
      note(11, "more than " + MOST_CLASSES + " classes", tree);
    }
    if (classes == 1 && !modifiers.equals(Set.of(Modifier.PUBLIC, Modifier.FINAL))) {
      note(1, "the class is not public and final", tree);
    }
    if (classes > 1 && (!modifiers.contains(Modifier.STATIC) || modifiers.contains(Modifier.PUBLIC))) {
      note(1, "a class inside that is not static, or public", tree);
    }
    int fields = 0;
    for (Element member : type.getEnclosedElements()) {
      if (member.getKind() == ElementKind.FIELD && !member.getModifiers().contains(Modifier.STATIC)) {
        fields++;
        if (tree.getKind() == Kind.ENUM && !isString(member.asType()) && !isConstant(member.asType())) {
          note(2, "a field of an enum: " + member, tree);
        }
      }
    }
    if (fields > MOST_FIELDS) {
      note(11, fields + " fields", tree);
    }
    return super.visitClass(tree, unused);
  }

  private static boolean isConstant(TypeMirror type) {
    return CONSTANTS.contains(type.getKind());
  }

  @Override
  public Void visitMethod(MethodTree tree, Void unused) {
    Element before = method;
    method = trees.getElement(getCurrentPath());
    calls.computeIfAbsent(method, k -> new LinkedHashSet<>());
    if (tree.getParameters().size() > MOST_PARAMETERS) {
      note(11, "more than " + MOST_PARAMETERS + " parameters: " + method, tree);
    }
    long end = trees.getSourcePositions().getEndPosition(unit, tree);
    if (lineOf(end) - lineOf(start(tree)) >= MOST_LINES) {
      note(11, "more than " + MOST_LINES + " lines: " + method, tree);
    }
    if (Set.of("equals", "hashCode", "toString").contains(tree.getName().toString())) {
      note(6, "a method of its own: " + method, tree);
    }
    if (tree.getReturnType() != null && !isAllowed(((ExecutableElement) method).getReturnType())) {
      note(3, "the type of " + method, tree);
    }
    super.visitMethod(tree, unused);
    method = before;
    return null;
  }

  @Override
  public Void visitVariable(VariableTree tree, Void unused) {
    Element variable = trees.getElement(getCurrentPath());
    if (variable.getKind() == ElementKind.FIELD && variable.getModifiers().contains(Modifier.STATIC)) {
      checkStatic(tree, variable);
    }
    if (variable.getKind() != ElementKind.ENUM_CONSTANT && !isAllowed(variable.asType())) {
      note(3, "the type of " + variable, tree);
    }
    return super.visitVariable(tree, unused);
  }

  private void checkStatic(VariableTree tree, Element variable) {
    TypeMirror type = variable.asType();
    boolean values = tree.getInitializer() != null && tree.getInitializer().toString().endsWith(".values()");
    if (!variable.getModifiers().contains(Modifier.FINAL)) {
      note(5, "a static field that is not final: " + variable, tree);
    }
    if (!isConstant(type) && !isString(type) && !values) {
      note(5, "a static field that is no constant: " + variable, tree);
    }
  }

  /** Rule 3, without lists, Integer and generic classes, which the program goes without. */
  private static boolean isAllowed(TypeMirror type) {
    switch (type.getKind()) {
      case VOID:
        return true;
      case ARRAY:
        TypeMirror part = ((ArrayType) type).getComponentType();
        boolean rows = part.getKind() == TypeKind.ARRAY;
        return rows ? ((ArrayType) part).getComponentType().getKind().isPrimitive() : isAllowed(part);
      case DECLARED:
        return isString(type) || isOwn(((DeclaredType) type).asElement());
      default:
        return type.getKind().isPrimitive();
    }
  }

  @Override
  public Void visitBlock(BlockTree tree, Void unused) {
    if (tree.isStatic()) {
      note(5, "a static initialiser", tree);
    }
    return super.visitBlock(tree, unused);
  }

  // ---- calls and new objects

  @Override
  public Void visitMethodInvocation(MethodInvocationTree tree, Void unused) {
    Element called = element(tree.getMethodSelect());
    // The compiler itself begins each constructor by this call.
    boolean beginning = tree.getMethodSelect().toString().equals("super");
    if (!beginning) {
      Element type = called.getEnclosingElement();
      if (!isOwn(type) && !LIBRARY.contains(type + "." + called.getSimpleName())) {
        note(4, type + "." + called, tree);
      }
      if (isOwn(type) && called.getSimpleName().contentEquals("values") && method != null) {
        note(5, "values() that is not kept", tree);
      }
      addCall(called);
    }
    return super.visitMethodInvocation(tree, unused);
  }

  private void addCall(Element called) {
    if (method != null) {
      calls.get(method).add(called);
    }
  }

  @Override
  public Void visitMemberSelect(MemberSelectTree tree, Void unused) {
    Element member = trees.getElement(getCurrentPath());
    boolean field = member != null && member.getKind() == ElementKind.FIELD;
    boolean length = field && member.getSimpleName().contentEquals("length");
    if (field && !length && !isOwn(member.getEnclosingElement())) {
      note(4, tree.toString(), tree);
    }
    return super.visitMemberSelect(tree, unused);
  }

  @Override
  public Void visitNewClass(NewClassTree tree, Void unused) {
    Element made = element(tree.getIdentifier());
    boolean constant = getCurrentPath().getParentPath().getLeaf() instanceof VariableTree;
    if (getCurrentPath().getParentPath().getLeaf().getKind() != Kind.THROW) {
      if (!isOwn(made)) {
        note(4, "new " + made, tree);
      } else if (tree.getClassBody() != null) {
        note(2, "an anonymous class", tree);
      } else if (!isMaking() && !constant) {
        note(12, "new " + made + " outside a constructor", tree);
      }
      addCall(trees.getElement(getCurrentPath()));
    }
    return super.visitNewClass(tree, unused);
  }

  @Override
  public Void visitNewArray(NewArrayTree tree, Void unused) {
    if (!isMaking()) {
      note(12, "a new array outside a constructor", tree);
    }
    for (ExpressionTree length : tree.getDimensions()) {
      if (number(length) < 0) {
        note(7, "the length of a new array: " + length, tree);
      }
    }
    return super.visitNewArray(tree, unused);
  }

  /** Whether this stands in a constructor or among the fields. */
  private boolean isMaking() {
    return method == null || method.getKind() == ElementKind.CONSTRUCTOR;
  }

  /** Rules 8 and 11: no method calls itself by any way, and no chain of calls is too long. */
  void checkCalls() {
    for (Element first : calls.keySet()) {
      follow(first, new ArrayList<>());
    }
  }

  private void follow(Element called, List<Element> chain) {
    if (chain.contains(called)) {
      breaches.add("8: " + called + " calls itself by " + chain);
      return;
    }
    List<Element> longer = new ArrayList<>(chain);
    longer.add(called);
    if (longer.size() > MOST_CALLS_DEEP) {
      breaches.add("11: calls that go too deep: " + longer);
      return;
    }
    for (Element next : calls.getOrDefault(called, new HashSet<>())) {
      follow(next, longer);
    }
  }

  // ---- exceptions

  @Override
  public Void visitThrow(ThrowTree tree, Void unused) {
    if (isMaking()) {
      note(6, "a throw in a constructor", tree);
    }
    boolean written = tree.getExpression().getKind() == Kind.NEW_CLASS;
    if (written) {
      NewClassTree made = (NewClassTree) tree.getExpression();
      written = EXCEPTIONS.contains(made.getIdentifier().toString()) && made.getArguments().size() <= 1;
      for (ExpressionTree argument : made.getArguments()) {
        written = written && argument.getKind() == Kind.STRING_LITERAL;
      }
    }
    if (!written) {
      note(6, tree.toString(), tree);
    }
    return super.visitThrow(tree, unused);
  }

  // ---- numbers and texts

  /** The constant that an expression stands for, or -1. */
  private long number(ExpressionTree tree) {
    if (tree.getKind() == Kind.INT_LITERAL) {
      return (Integer) ((LiteralTree) tree).getValue();
    }
    Element element = element(tree);
    Object value = element instanceof VariableElement ? ((VariableElement) element).getConstantValue() : null;
    return value instanceof Integer ? (Integer) value : -1;
  }

  @Override
  public Void visitBinary(BinaryTree tree, Void unused) {
    TypeMirror left = type(tree.getLeftOperand());
    TypeMirror right = type(tree.getRightOperand());
    boolean divides = tree.getKind() == Kind.DIVIDE || tree.getKind() == Kind.REMAINDER;
    boolean compares = tree.getKind() == Kind.EQUAL_TO || tree.getKind() == Kind.NOT_EQUAL_TO;
    if (divides && isWhole(left) && isWhole(right) && number(tree.getRightOperand()) <= 0) {
      note(7, "a divisor that is no constant: " + tree, tree);
    }
    if (tree.getKind() == Kind.REMAINDER && (!isWhole(left) || !isWhole(right))) {
      note(3, "of doubles and floats: " + tree, tree);
    }
    if (tree.getKind() == Kind.PLUS && (isString(left) || isString(right))) {
      note(10, "texts joined by +: " + tree, tree);
    }
    if (compares && isString(left) && isString(right)) {
      note(6, "texts compared by their objects: " + tree, tree);
    }
    return super.visitBinary(tree, unused);
  }

  private static boolean isWhole(TypeMirror type) {
    return type.getKind() != TypeKind.FLOAT && type.getKind() != TypeKind.DOUBLE;
  }

  @Override
  public Void visitCompoundAssignment(CompoundAssignmentTree tree, Void unused) {
    boolean divides = tree.getKind() == Kind.DIVIDE_ASSIGNMENT || tree.getKind() == Kind.REMAINDER_ASSIGNMENT;
    if (divides && number(tree.getExpression()) <= 0) {
      note(7, "a divisor that is no constant: " + tree, tree);
    }
    if (isString(type(tree.getVariable()))) {
      note(10, "texts joined by +=: " + tree, tree);
    }
    return super.visitCompoundAssignment(tree, unused);
  }

  @Override
  public Void visitTypeCast(TypeCastTree tree, Void unused) {
    if (!type(tree.getType()).getKind().isPrimitive()) {
      note(7, "a cast that could fail: " + tree, tree);
    }
    return super.visitTypeCast(tree, unused);
  }

  // ---- loops

  @Override
  public Void visitForLoop(ForLoopTree tree, Void unused) {
    checkEnd(tree.getCondition(), tree);
    if (tree.getUpdate().isEmpty()) {
      note(9, "a loop that does not count", tree);
    }
    return super.visitForLoop(tree, unused);
  }

  @Override
  public Void visitWhileLoop(WhileLoopTree tree, Void unused) {
    checkEnd(tree.getCondition(), tree);
    return super.visitWhileLoop(tree, unused);
  }

  @Override
  public Void visitDoWhileLoop(DoWhileLoopTree tree, Void unused) {
    checkEnd(tree.getCondition(), tree);
    return super.visitDoWhileLoop(tree, unused);
  }

  /** Rule 9: a loop goes on only while something is below or above a bound. */
  private void checkEnd(ExpressionTree condition, Tree loop) {
    if (condition == null || !hasBound(condition)) {
      note(9, "a loop without a bound", loop);
    }
  }

  private static boolean hasBound(ExpressionTree condition) {
    if (condition.getKind() == Kind.PARENTHESIZED) {
      return hasBound(((ParenthesizedTree) condition).getExpression());
    }
    if (condition.getKind() == Kind.CONDITIONAL_AND) {
      BinaryTree both = (BinaryTree) condition;
      return hasBound(both.getLeftOperand()) || hasBound(both.getRightOperand());
    }
    return ORDERINGS.contains(condition.getKind());
  }
}
