import com.sun.source.tree.ArrayAccessTree;
import com.sun.source.tree.AssertTree;
import com.sun.source.tree.AssignmentTree;
import com.sun.source.tree.BinaryTree;
import com.sun.source.tree.BlockTree;
import com.sun.source.tree.ClassTree;
import com.sun.source.tree.CompilationUnitTree;
import com.sun.source.tree.CompoundAssignmentTree;
import com.sun.source.tree.DoWhileLoopTree;
import com.sun.source.tree.EnhancedForLoopTree;
import com.sun.source.tree.ExpressionTree;
import com.sun.source.tree.ForLoopTree;
import com.sun.source.tree.ImportTree;
import com.sun.source.tree.LambdaExpressionTree;
import com.sun.source.tree.LiteralTree;
import com.sun.source.tree.MemberReferenceTree;
import com.sun.source.tree.MemberSelectTree;
import com.sun.source.tree.MethodInvocationTree;
import com.sun.source.tree.MethodTree;
import com.sun.source.tree.NewArrayTree;
import com.sun.source.tree.NewClassTree;
import com.sun.source.tree.ParenthesizedTree;
import com.sun.source.tree.SynchronizedTree;
import com.sun.source.tree.ThrowTree;
import com.sun.source.tree.Tree;
import com.sun.source.tree.TryTree;
import com.sun.source.tree.TypeCastTree;
import com.sun.source.tree.UnaryTree;
import com.sun.source.tree.VariableTree;
import com.sun.source.tree.WhileLoopTree;
import com.sun.source.util.JavacTask;
import com.sun.source.util.TreePath;
import com.sun.source.util.TreePathScanner;
import com.sun.source.util.Trees;
import java.net.URI;
import java.util.ArrayList;
import java.util.List;
import java.util.Map;
import java.util.Set;
import java.util.TreeMap;
import java.util.TreeSet;
import javax.lang.model.element.Element;
import javax.lang.model.element.ElementKind;
import javax.lang.model.element.ExecutableElement;
import javax.lang.model.element.Modifier;
import javax.lang.model.element.TypeElement;
import javax.lang.model.type.ArrayType;
import javax.lang.model.type.DeclaredType;
import javax.lang.model.type.TypeKind;
import javax.lang.model.type.TypeMirror;
import javax.lang.model.util.Elements;
import javax.tools.JavaFileObject;
import javax.tools.SimpleJavaFileObject;
import javax.tools.ToolProvider;

// Reads one source by the compiler's own tree and tells which rules of LANGUAGE.md it breaks.
// Where a rule leaves a way that the class doesn't go (recursion with a guard, casts among own
// classes), the stricter rule is held to: who wants that way widens it here.
final class RuleBook extends TreePathScanner<Void, Void> {
  private static final int MOST_PARAMETERS = 7;
  private static final int MOST_LINES = 60;
  private static final int MOST_CALLS_DEEP = 8;
  private static final int MOST_CLASSES = 12;
  private static final int MOST_FIELDS = 20;

  private static final Set<String> IMPORTS = Set.of("java.util.Arrays", "java.util.ArrayList", "java.util.List",
      "java.util.Iterator");
  private static final Set<String> CLASSES = Set.of("java.lang.String", "java.lang.StringBuilder",
      "java.lang.Integer", "java.util.ArrayList", "java.util.List");
  private static final Map<String, Set<String>> LIBRARY = Map.of(
      "java.lang.String", Set.of("length", "charAt", "isEmpty", "equals", "indexOf", "substring", "toCharArray"),
      "java.lang.StringBuilder", Set.of("append", "charAt", "setCharAt", "setLength", "deleteCharAt", "reverse",
          "length", "toString"),
      "java.util.ArrayList", Set.of("add", "get", "set", "remove", "size", "isEmpty", "clear"),
      "java.util.List", Set.of("add", "get", "set", "remove", "size", "isEmpty", "clear", "of"),
      "java.lang.System", Set.of("arraycopy"),
      "java.util.Arrays", Set.of("copyOf", "copyOfRange", "fill"),
      "java.lang.Integer", Set.of("compare", "max", "min", "bitCount", "signum", "numberOfLeadingZeros",
          "numberOfTrailingZeros", "highestOneBit", "lowestOneBit", "intValue", "valueOf"),
      "java.lang.Long", Set.of("compare", "max", "min", "bitCount", "signum", "numberOfLeadingZeros",
          "numberOfTrailingZeros", "highestOneBit", "lowestOneBit"),
      "java.lang.Math", Set.of("max", "min", "abs", "floorDiv", "floorMod"));

  private final Set<String> broken = new TreeSet<>();
  private final Map<String, Set<String>> calls = new TreeMap<>();
  private final Map<String, Set<String>> overrides = new TreeMap<>();
  private final Set<String> roots = new TreeSet<>();
  private final List<TypeElement> own = new ArrayList<>();
  private final Trees trees;
  private final Elements elements;
  private final CompilationUnitTree unit;

  private RuleBook(JavacTask task, CompilationUnitTree unit) {
    this.trees = Trees.instance(task);
    this.elements = task.getElements();
    this.unit = unit;
  }

  /** Lines 'rule N: what', one for each thing that breaks a rule; an empty set if all are kept. */
  static Set<String> brokenBy(String name, String source) throws Exception {
    JavaFileObject file = new SimpleJavaFileObject(URI.create("string:///" + name + ".java"), JavaFileObject.Kind.SOURCE) {
      @Override public CharSequence getCharContent(boolean ignoreErrors) { return source; }
    };
    List<String> errors = new ArrayList<>();
    JavacTask task = (JavacTask) ToolProvider.getSystemJavaCompiler().getTask(null, null,
        d -> { if (d.getKind() == javax.tools.Diagnostic.Kind.ERROR) errors.add(d.getMessage(null)); },
        List.of("-proc:none"), null, List.of(file));
    CompilationUnitTree unit = task.parse().iterator().next();
    task.analyze();
    RuleBook book = new RuleBook(task, unit);
    for (String error : errors) book.broken.add("it doesn't compile: " + error);
    book.findOwnClasses();
    book.scan(unit, null);
    book.judgeCalls();
    return book.broken;
  }

  private void breaks(int rule, String what) {
    broken.add("rule " + rule + ": " + what + " in " + whereNow());
  }

  private String whereNow() {
    for (TreePath p = getCurrentPath(); p != null; p = p.getParentPath()) {
      if (p.getLeaf() instanceof MethodTree m) return m.getName().toString();
      if (p.getLeaf() instanceof ClassTree c) return "class " + c.getSimpleName();
    }
    return "the file";
  }

  private Element elementOf(Tree tree) {
    return trees.getElement(trees.getPath(unit, tree));
  }

  private TypeMirror typeOf(Tree tree) {
    return trees.getTypeMirror(trees.getPath(unit, tree));
  }

  private boolean isOwn(Element e) {
    return own.contains(e);
  }

  // ---- rules 1, 2 and 11: classes ----

  private void findOwnClasses() {
    new TreePathScanner<Void, Void>() {
      @Override public Void visitClass(ClassTree c, Void v) {
        if (trees.getElement(getCurrentPath()) instanceof TypeElement e) own.add(e);
        return super.visitClass(c, v);
      }
    }.scan(unit, null);
    if (own.size() > MOST_CLASSES) broken.add("rule 11: classes: " + own.size());
  }

  @Override public Void visitImport(ImportTree i, Void v) {
    if (!IMPORTS.contains(i.getQualifiedIdentifier().toString())) breaks(4, "import " + i.getQualifiedIdentifier());
    return null;
  }

  @Override public Void visitClass(ClassTree c, Void v) {
    Tree around = getCurrentPath().getParentPath().getLeaf();
    boolean outer = around instanceof CompilationUnitTree;
    if (!outer && !(around instanceof ClassTree)) {
      breaks(2, "a local or anonymous class");
      return super.visitClass(c, v);
    }
    Element e = trees.getElement(getCurrentPath());
    if (!outer && !e.getModifiers().contains(Modifier.STATIC)) breaks(2, "a class that isn't static: " + e);
    if (!outer && isOpen(e)) breaks(1, "an open class: " + e);
    int fields = 0;
    for (Element member : e.getEnclosedElements()) {
      if (member.getKind() == ElementKind.FIELD && !member.getModifiers().contains(Modifier.STATIC)) fields++;
      if (outer) judgeFace(member);
      if (e.getKind() == ElementKind.ENUM && member.getKind() == ElementKind.FIELD) judgeEnumField(member);
    }
    if (fields > MOST_FIELDS) breaks(11, "fields: " + fields);
    return super.visitClass(c, v);
  }

  private static boolean isOpen(Element e) {
    return e.getModifiers().contains(Modifier.PUBLIC) || e.getModifiers().contains(Modifier.PROTECTED);
  }

  private void judgeFace(Element member) {
    if (member instanceof TypeElement) return;
    Set<Modifier> m = member.getModifiers();
    if (!m.contains(Modifier.PUBLIC) && !m.contains(Modifier.PRIVATE)) breaks(1, "neither public nor private: " + member);
  }

  private void judgeEnumField(Element field) {
    TypeKind kind = field.asType().getKind();
    boolean plain = kind == TypeKind.INT || kind == TypeKind.LONG || kind == TypeKind.BOOLEAN;
    boolean array = field.getModifiers().contains(Modifier.STATIC);
    if (!plain && !array && !isString(field.asType())) breaks(2, "a field of an enum: " + field);
  }

  @Override public Void visitLambdaExpression(LambdaExpressionTree t, Void v) {
    breaks(2, "a lambda");
    return super.visitLambdaExpression(t, v);
  }

  @Override public Void visitMemberReference(MemberReferenceTree t, Void v) {
    breaks(2, "a method reference");
    return super.visitMemberReference(t, v);
  }

  // ---- rules 3 and 5: types, static fields ----

  private static boolean isString(TypeMirror t) {
    return t.toString().equals("java.lang.String");
  }

  private static boolean isInteger(TypeMirror t) {
    return t.toString().equals("java.lang.Integer");
  }

  private boolean mayBeType(TypeMirror t) {
    if (t.getKind().isPrimitive() || t.getKind() == TypeKind.VOID || t.getKind() == TypeKind.TYPEVAR) return true;
    if (t instanceof ArrayType a) return mayBeArray(a.getComponentType());
    if (!(t instanceof DeclaredType d)) return false;
    String name = ((TypeElement) d.asElement()).getQualifiedName().toString();
    return isOwn(d.asElement()) || CLASSES.contains(name) || name.equals("java.util.Iterator");
  }

  private boolean mayBeArray(TypeMirror held) {
    if (held instanceof ArrayType inner) return inner.getComponentType().getKind().isPrimitive();
    return held.getKind().isPrimitive() || held instanceof DeclaredType d && isOwn(d.asElement());
  }

  @Override public Void visitVariable(VariableTree t, Void v) {
    Element e = trees.getElement(getCurrentPath());
    if (e == null) return super.visitVariable(t, v);
    if (e.getKind() != ElementKind.ENUM_CONSTANT && !mayBeType(e.asType())) breaks(3, "the type " + e.asType());
    if (e.getKind() == ElementKind.FIELD && e.getModifiers().contains(Modifier.STATIC)) judgeStatic(t, e);
    return super.visitVariable(t, v);
  }

  private void judgeStatic(VariableTree t, Element e) {
    if (!e.getModifiers().contains(Modifier.FINAL)) breaks(5, "a static field that isn't final: " + e);
    TypeMirror type = e.asType();
    if (!(type instanceof ArrayType a)) {
      boolean constant = type.getKind().isPrimitive() || isString(type);
      if (!constant) breaks(5, "static state: " + e);
      return;
    }
    boolean writtenOut = t.getInitializer() instanceof NewArrayTree made && made.getInitializers() != null
        && a.getComponentType().getKind().isPrimitive();
    boolean values = t.getInitializer() instanceof MethodInvocationTree call && isValues(call);
    if (!writtenOut && !values) breaks(5, "a static array that isn't written out: " + e);
  }

  private boolean isValues(MethodInvocationTree call) {
    Element e = elementOf(call.getMethodSelect());
    return e != null && e.getSimpleName().contentEquals("values") && isOwn(e.getEnclosingElement());
  }

  @Override public Void visitBlock(BlockTree t, Void v) {
    if (t.isStatic()) breaks(5, "a static block");
    return super.visitBlock(t, v);
  }

  @Override public Void visitAssignment(AssignmentTree t, Void v) {
    judgeChange(t.getVariable());
    return super.visitAssignment(t, v);
  }

  @Override public Void visitCompoundAssignment(CompoundAssignmentTree t, Void v) {
    judgeChange(t.getVariable());
    if (t.getKind() == Tree.Kind.PLUS_ASSIGNMENT && isString(typeOf(t.getVariable()))) breaks(10, "texts joined by +=");
    return super.visitCompoundAssignment(t, v);
  }

  @Override public Void visitUnary(UnaryTree t, Void v) {
    if (t.getKind().toString().endsWith("CREMENT")) judgeChange(t.getExpression());
    return super.visitUnary(t, v);
  }

  private void judgeChange(ExpressionTree changed) {
    ExpressionTree held = changed;
    while (held instanceof ArrayAccessTree a) held = a.getExpression();
    Element e = elementOf(held);
    if (held != changed && e != null && e.getModifiers().contains(Modifier.STATIC)) breaks(5, "a static array is changed: " + e);
  }

  // ---- rules 4, 6 and 10: words, the library ----

  @Override public Void visitThrow(ThrowTree t, Void v) {
    breaks(6, "throw");
    return super.visitThrow(t, v);
  }

  @Override public Void visitTry(TryTree t, Void v) {
    breaks(6, "try");
    return super.visitTry(t, v);
  }

  @Override public Void visitSynchronized(SynchronizedTree t, Void v) {
    breaks(6, "synchronized");
    return super.visitSynchronized(t, v);
  }

  @Override public Void visitAssert(AssertTree t, Void v) {
    breaks(6, "assert");
    return super.visitAssert(t, v);
  }

  @Override public Void visitTypeCast(TypeCastTree t, Void v) {
    if (!typeOf(t.getType()).getKind().isPrimitive()) breaks(6, "a cast among classes");
    return super.visitTypeCast(t, v);
  }

  @Override public Void visitBinary(BinaryTree t, Void v) {
    TypeMirror left = typeOf(t.getLeftOperand());
    TypeMirror right = typeOf(t.getRightOperand());
    boolean texts = isString(left) || isString(right);
    if (t.getKind() == Tree.Kind.PLUS && texts) breaks(10, "texts joined by +");
    boolean same = t.getKind() == Tree.Kind.EQUAL_TO || t.getKind() == Tree.Kind.NOT_EQUAL_TO;
    boolean boxed = isString(left) && isString(right) || isInteger(left) && isInteger(right);
    if (same && boxed) breaks(6, "== or != between texts or Integers");
    return super.visitBinary(t, v);
  }

  @Override public Void visitLiteral(LiteralTree t, Void v) {
    if (t.getValue() instanceof String s && !s.chars().allMatch(c -> c >= 1 && c <= 127)) breaks(4, "a sign that isn't 1 to 127");
    if (t.getValue() instanceof Character c && c > 255) breaks(3, "a character above 255");
    return super.visitLiteral(t, v);
  }

  @Override public Void visitMethodInvocation(MethodInvocationTree t, Void v) {
    if (!(elementOf(t.getMethodSelect()) instanceof ExecutableElement called)) return super.visitMethodInvocation(t, v);
    Element of = called.getEnclosingElement();
    if (isValues(t)) judgeValues();
    else if (isOwn(of)) call(nameOf(called));
    else if (called.getKind() != ElementKind.CONSTRUCTOR && !isArrayClone(t, called)) judgeLibrary(of, called);
    return super.visitMethodInvocation(t, v);
  }

  private boolean isArrayClone(MethodInvocationTree t, ExecutableElement called) {
    return called.getSimpleName().contentEquals("clone") && t.getMethodSelect() instanceof MemberSelectTree select
        && typeOf(select.getExpression()) instanceof ArrayType;
  }

  private void judgeLibrary(Element of, ExecutableElement called) {
    Set<String> may = LIBRARY.getOrDefault(of.toString(), Set.of());
    if (!may.contains(called.getSimpleName().toString())) breaks(4, "the library's " + of + "." + called);
    for (var parameter : called.getParameters()) {
      TypeKind kind = parameter.asType().getKind();
      boolean number = of.toString().equals("java.lang.Math") && (kind == TypeKind.DOUBLE || kind == TypeKind.FLOAT);
      if (number) breaks(4, "the library's " + of + "." + called);
    }
  }

  // Each values() makes a copy: only a static field may keep one.
  private void judgeValues() {
    if (!whereNow().startsWith("class ")) breaks(12, "values()");
  }

  @Override public Void visitNewClass(NewClassTree t, Void v) {
    if (elementOf(t) instanceof ExecutableElement made) {
      Element of = made.getEnclosingElement();
      if (isOwn(of)) call(nameOf(made));
      else if (!CLASSES.contains(of.toString()) || isInteger(of.asType())) breaks(4, "new " + of);
    }
    judgeMaking();
    return super.visitNewClass(t, v);
  }

  @Override public Void visitNewArray(NewArrayTree t, Void v) {
    if (!mayBeType(typeOf(t))) breaks(3, "the type " + typeOf(t));
    judgeMaking();
    return super.visitNewArray(t, v);
  }

  // All that an object needs is made with it, so that calls take no room.
  private void judgeMaking() {
    String where = whereNow();
    boolean whileMade = where.equals("<init>") || where.startsWith("class ");
    if (!whileMade) breaks(12, "a call makes an object");
  }

  // ---- rule 9: loops ----

  @Override public Void visitForLoop(ForLoopTree t, Void v) {
    judgeEnd(t.getCondition());
    return super.visitForLoop(t, v);
  }

  @Override public Void visitWhileLoop(WhileLoopTree t, Void v) {
    judgeEnd(t.getCondition());
    return super.visitWhileLoop(t, v);
  }

  @Override public Void visitDoWhileLoop(DoWhileLoopTree t, Void v) {
    judgeEnd(t.getCondition());
    return super.visitDoWhileLoop(t, v);
  }

  @Override public Void visitEnhancedForLoop(EnhancedForLoopTree t, Void v) {
    if (!(typeOf(t.getExpression()) instanceof ArrayType)) breaks(12, "a loop that makes an iterator");
    return super.visitEnhancedForLoop(t, v);
  }

  private void judgeEnd(ExpressionTree condition) {
    ExpressionTree bare = condition;
    while (bare instanceof ParenthesizedTree p) bare = p.getExpression();
    // An end that can be seen compares a counter, alone or as one of several things that must hold.
    if (!compares(bare)) breaks(9, "a loop whose end can't be seen");
  }

  private boolean compares(ExpressionTree e) {
    if (e instanceof ParenthesizedTree p) return compares(p.getExpression());
    if (!(e instanceof BinaryTree b)) return false;
    if (b.getKind() == Tree.Kind.CONDITIONAL_AND) return compares(b.getLeftOperand()) || compares(b.getRightOperand());
    return Set.of(Tree.Kind.LESS_THAN, Tree.Kind.LESS_THAN_EQUAL, Tree.Kind.GREATER_THAN,
        Tree.Kind.GREATER_THAN_EQUAL).contains(b.getKind());
  }

  // ---- rules 1, 6, 8 and 11: methods and what they call ----

  private static String nameOf(ExecutableElement e) {
    return e.getEnclosingElement().getSimpleName() + "." + e;
  }

  @Override public Void visitMethod(MethodTree t, Void v) {
    ExecutableElement e = (ExecutableElement) trees.getElement(getCurrentPath());
    String name = t.getName().toString();
    if (Set.of("equals", "hashCode", "toString").contains(name)) breaks(6, "a method " + name);
    if (!t.getThrows().isEmpty()) breaks(6, "throws");
    if (e.getModifiers().contains(Modifier.SYNCHRONIZED)) breaks(6, "synchronized");
    if (t.getParameters().size() > MOST_PARAMETERS) breaks(11, "parameters: " + t.getParameters().size());
    if (!mayBeType(e.getReturnType())) breaks(3, "the type " + e.getReturnType());
    judgeLines(t);
    if (!(e.getEnclosingElement().getEnclosingElement() instanceof TypeElement) && isOpen(e)) roots.add(nameOf(e));
    noteOverrides(e);
    return super.visitMethod(t, v);
  }

  private void judgeLines(MethodTree t) {
    long first = trees.getSourcePositions().getStartPosition(unit, t);
    long last = trees.getSourcePositions().getEndPosition(unit, t);
    if (first < 0 || last < 0) return;
    long lines = unit.getLineMap().getLineNumber(last) - unit.getLineMap().getLineNumber(first) + 1;
    if (lines > MOST_LINES) breaks(11, "lines: " + lines);
  }

  private void noteOverrides(ExecutableElement e) {
    for (TypeElement above : own) {
      for (Element member : above.getEnclosedElements()) {
        if (member instanceof ExecutableElement other && other != e
            && elements.overrides(e, other, (TypeElement) e.getEnclosingElement())) {
          overrides.computeIfAbsent(nameOf(other), k -> new TreeSet<>()).add(nameOf(e));
        }
      }
    }
  }

  private void call(String called) {
    for (TreePath p = getCurrentPath(); p != null; p = p.getParentPath()) {
      Element e = trees.getElement(p);
      // a static field and an enum's constant are made with the class, by no method's call
      if (p.getLeaf() instanceof VariableTree && e.getModifiers().contains(Modifier.STATIC)) return;
      if (p.getLeaf() instanceof MethodTree) {
        calls.computeIfAbsent(nameOf((ExecutableElement) e), k -> new TreeSet<>()).add(called);
        return;
      }
      if (p.getLeaf() instanceof ClassTree) {
        // what a field's initialiser calls, each constructor of its class calls
        for (Element member : e.getEnclosedElements()) {
          if (member.getKind() == ElementKind.CONSTRUCTOR) {
            calls.computeIfAbsent(nameOf((ExecutableElement) member), k -> new TreeSet<>()).add(called);
          }
        }
        return;
      }
    }
  }

  private void judgeCalls() {
    Set<String> all = new TreeSet<>(calls.keySet());
    all.addAll(roots);
    for (String root : all) goDown(root, new ArrayList<>());
  }

  private void goDown(String method, List<String> open) {
    if (open.contains(method)) {
      broken.add("rule 8: " + method + " calls itself");
      return;
    }
    // a call of an overridden method is one level with the one that answers it
    for (String answering : overrides.getOrDefault(method, Set.of())) goDown(answering, open);
    open.add(method);
    if (open.size() > MOST_CALLS_DEEP) broken.add("rule 11: calls too deep: " + open);
    for (String called : calls.getOrDefault(method, Set.of())) goDown(called, open);
    open.remove(open.size() - 1);
  }
}
