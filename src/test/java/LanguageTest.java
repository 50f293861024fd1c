import com.sun.source.tree.AssertTree;
import com.sun.source.tree.BinaryTree;
import com.sun.source.tree.BlockTree;
import com.sun.source.tree.CatchTree;
import com.sun.source.tree.ClassTree;
import com.sun.source.tree.CompilationUnitTree;
import com.sun.source.tree.CompoundAssignmentTree;
import com.sun.source.tree.DoWhileLoopTree;
import com.sun.source.tree.ExpressionTree;
import com.sun.source.tree.ForLoopTree;
import com.sun.source.tree.ImportTree;
import com.sun.source.tree.LambdaExpressionTree;
import com.sun.source.tree.MemberReferenceTree;
import com.sun.source.tree.MethodInvocationTree;
import com.sun.source.tree.MethodTree;
import com.sun.source.tree.NewClassTree;
import com.sun.source.tree.ParenthesizedTree;
import com.sun.source.tree.SynchronizedTree;
import com.sun.source.tree.ThrowTree;
import com.sun.source.tree.Tree;
import com.sun.source.tree.TryTree;
import com.sun.source.tree.VariableTree;
import com.sun.source.tree.WhileLoopTree;
import com.sun.source.util.JavacTask;
import com.sun.source.util.TreePath;
import com.sun.source.util.TreePathScanner;
import com.sun.source.util.Trees;
import java.io.IOException;
import java.nio.charset.StandardCharsets;
import java.nio.file.Files;
import java.nio.file.Path;
import java.util.ArrayList;
import java.util.HashMap;
import java.util.HashSet;
import java.util.LinkedHashMap;
import java.util.LinkedHashSet;
import java.util.List;
import java.util.Map;
import java.util.Set;
import javax.lang.model.element.Element;
import javax.lang.model.element.ExecutableElement;
import javax.lang.model.element.Modifier;
import javax.lang.model.element.TypeElement;
import javax.lang.model.type.TypeMirror;
import javax.tools.JavaCompiler;
import javax.tools.StandardJavaFileManager;
import javax.tools.ToolProvider;

/** The rules of LANGUAGE.md that can be seen in the source (of -Dproject=...); what a rule finds amiss is told with its line. */
public final class LanguageTest extends TreePathScanner<Void, Void> {
  private static final Check check = new Check("LanguageTest");
  private static final Set<String> IMPORTS = Set.of("java.util.ArrayList", "java.util.List", "java.util.Iterator",
      "java.util.Arrays", "java.util.NoSuchElementException");
  private static final Set<String> THROWN = Set.of("IllegalStateException", "IllegalArgumentException",
      "IndexOutOfBoundsException", "ArithmeticException", "UnsupportedOperationException", "NoSuchElementException",
      "RuntimeException");
  private static final Set<String> TYPES = Set.of("int", "long", "short", "byte", "char", "boolean", "double", "float",
      "java.lang.String", "java.lang.StringBuilder", "java.lang.Integer");
  private static final Map<String, Set<String>> LIBRARY = Map.of(
      "java.lang.String", Set.of("length", "charAt", "isEmpty", "equals", "indexOf", "substring", "toCharArray"),
      "java.lang.StringBuilder", Set.of("append", "charAt", "setCharAt", "setLength", "deleteCharAt", "reverse", "length", "toString"),
      "java.util.ArrayList", Set.of("add", "get", "set", "remove", "size", "isEmpty", "clear"),
      "java.util.List", Set.of("add", "get", "set", "remove", "size", "isEmpty", "clear", "of"),
      "java.util.Arrays", Set.of("copyOf", "copyOfRange", "fill"),
      "java.lang.System", Set.of("arraycopy"));
  private static final int LINES = 60;
  private static final int PARAMETERS = 7;
  private static final int DEPTH = 8;
  private static final int CLASSES = 12;
  private static final int FIELDS = 20;

  private final Trees trees;
  private final CompilationUnitTree unit;
  private final List<String> amiss = new ArrayList<>();
  private final Map<ExecutableElement, Set<ExecutableElement>> calls = new LinkedHashMap<>();
  private final Map<ExecutableElement, Integer> depths = new HashMap<>();
  private final Set<ExecutableElement> open = new HashSet<>();
  private final Set<String> face = new HashSet<>();
  private ExecutableElement within = null;
  private boolean throwsHere = false;
  private boolean catchesHere = false;
  private int classes = 0;

  private LanguageTest(Trees trees, CompilationUnitTree unit) {
    this.trees = trees;
    this.unit = unit;
  }

  private void rule(int number, boolean isBroken, Tree at, String what) {
    if (isBroken) {
      long start = trees.getSourcePositions().getStartPosition(unit, at);
      amiss.add("rule " + number + ", line " + unit.getLineMap().getLineNumber(start) + ": " + what);
    }
  }

  private TypeMirror typeOf(Tree tree) {
    return trees.getTypeMirror(new TreePath(getCurrentPath(), tree));
  }

  private boolean isText(Tree tree) {
    return String.valueOf(typeOf(tree)).equals("java.lang.String");
  }

  private static boolean isOwn(String type) {
    return type.equals("Treebark") || type.startsWith("Treebark.");
  }

  private static boolean isAllowedType(String type) {
    String one = type.replace("[]", "");
    int dimensions = (type.length() - one.length()) / 2;
    boolean isNumber = TYPES.contains(one) && !one.startsWith("java");
    boolean isList = one.startsWith("java.util.ArrayList<") || one.startsWith("java.util.List<");
    return dimensions <= (isNumber ? 2 : 1) && (TYPES.contains(one) || isOwn(one) || isList && dimensions == 0);
  }

  // ---- classes and members

  @Override
  public Void visitImport(ImportTree tree, Void none) {
    rule(4, !IMPORTS.contains(tree.getQualifiedIdentifier().toString()), tree, "import");
    return null;
  }

  @Override
  public Void visitClass(ClassTree tree, Void none) {
    classes++;
    int fields = 0;
    for (Tree member : tree.getMembers()) {
      boolean isConstant = member instanceof VariableTree field && field.getModifiers().getFlags().contains(Modifier.STATIC);
      fields += member.getKind() == Tree.Kind.VARIABLE && !isConstant ? 1 : 0;
      rule(5, member instanceof BlockTree, member, "a block that initialises");
      if (isConstant) {
        rule(5, !((VariableTree) member).getModifiers().getFlags().contains(Modifier.FINAL), member, "a static field that is not final");
      }
      if (classes == 1 && member instanceof MethodTree method && method.getReturnType() != null
          && method.getModifiers().getFlags().contains(Modifier.PUBLIC)) {
        face.add(method.getName().toString());
      }
    }
    rule(11, fields > FIELDS, tree, "fields: " + fields);
    return super.visitClass(tree, none);
  }

  @Override
  public Void visitMethod(MethodTree tree, Void none) {
    within = (ExecutableElement) trees.getElement(getCurrentPath());
    calls.put(within, new LinkedHashSet<>());
    throwsHere = false;
    catchesHere = false;
    boolean isPublic = within.getModifiers().contains(Modifier.PUBLIC);
    rule(1, !isPublic && face.contains(tree.getName().toString()), tree, "bears the name of a public one: " + within);
    rule(6, Set.of("equals", "hashCode", "toString").contains(tree.getName().toString()), tree, "is the library's: " + within);
    rule(11, tree.getParameters().size() > PARAMETERS, tree, "parameters: " + within);
    long first = unit.getLineMap().getLineNumber(trees.getSourcePositions().getStartPosition(unit, tree));
    long last = unit.getLineMap().getLineNumber(Math.max(0, trees.getSourcePositions().getEndPosition(unit, tree)));
    rule(11, last - first >= LINES, tree, "lines: " + within);
    super.visitMethod(tree, none);
    rule(6, throwsHere && catchesHere, tree, "throws and catches: " + within);
    rule(6, throwsHere && tree.getReturnType() == null, tree, "a constructor throws");
    within = null;
    return null;
  }

  @Override
  public Void visitVariable(VariableTree tree, Void none) {
    String type = String.valueOf(trees.getTypeMirror(getCurrentPath()));
    boolean isCaught = getCurrentPath().getParentPath().getLeaf() instanceof CatchTree;
    rule(3, !isCaught && !isAllowedType(type), tree, "a variable of " + type);
    return super.visitVariable(tree, none);
  }

  // ---- statements

  @Override
  public Void visitThrow(ThrowTree tree, Void none) {
    throwsHere = true;
    boolean isGood = tree.getExpression() instanceof NewClassTree made && THROWN.contains(made.getIdentifier().toString())
        && (made.getArguments().isEmpty() || made.getArguments().get(0).getKind() == Tree.Kind.STRING_LITERAL);
    rule(6, !isGood, tree, "throws another thing");
    return super.visitThrow(tree, none);
  }

  @Override
  public Void visitTry(TryTree tree, Void none) {
    rule(6, tree.getFinallyBlock() != null || !tree.getResources().isEmpty(), tree, "finally, or resources");
    return super.visitTry(tree, none);
  }

  @Override
  public Void visitCatch(CatchTree tree, Void none) {
    catchesHere = true;
    rule(6, !THROWN.contains(String.valueOf(tree.getParameter().getType())), tree, "catches another thing");
    return super.visitCatch(tree, none);
  }

  @Override
  public Void visitSynchronized(SynchronizedTree tree, Void none) {
    rule(6, true, tree, "synchronized");
    return super.visitSynchronized(tree, none);
  }

  @Override
  public Void visitAssert(AssertTree tree, Void none) {
    rule(6, true, tree, "assert");
    return super.visitAssert(tree, none);
  }

  @Override
  public Void visitForLoop(ForLoopTree tree, Void none) {
    rule(9, tree.getCondition() == null || isTrue(tree.getCondition()), tree, "a loop without an end");
    rule(9, tree.getUpdate().isEmpty(), tree, "a loop whose counter stays");
    return super.visitForLoop(tree, none);
  }

  @Override
  public Void visitWhileLoop(WhileLoopTree tree, Void none) {
    rule(9, isTrue(tree.getCondition()), tree, "a loop without an end");
    return super.visitWhileLoop(tree, none);
  }

  @Override
  public Void visitDoWhileLoop(DoWhileLoopTree tree, Void none) {
    rule(9, isTrue(tree.getCondition()), tree, "a loop without an end");
    return super.visitDoWhileLoop(tree, none);
  }

  private static boolean isTrue(ExpressionTree condition) {
    ExpressionTree bare = condition instanceof ParenthesizedTree inner ? inner.getExpression() : condition;
    return bare.toString().equals("true");
  }

  // ---- expressions

  @Override
  public Void visitLambdaExpression(LambdaExpressionTree tree, Void none) {
    rule(2, true, tree, "a lambda");
    return super.visitLambdaExpression(tree, none);
  }

  @Override
  public Void visitMemberReference(MemberReferenceTree tree, Void none) {
    rule(2, true, tree, "a method reference");
    return super.visitMemberReference(tree, none);
  }

  @Override
  public Void visitBinary(BinaryTree tree, Void none) {
    boolean areTexts = isText(tree.getLeftOperand()) || isText(tree.getRightOperand());
    rule(10, tree.getKind() == Tree.Kind.PLUS && areTexts, tree, "texts joined by +");
    boolean compares = tree.getKind() == Tree.Kind.EQUAL_TO || tree.getKind() == Tree.Kind.NOT_EQUAL_TO;
    rule(6, compares && isText(tree.getLeftOperand()) && isText(tree.getRightOperand()), tree, "texts compared by ==");
    return super.visitBinary(tree, none);
  }

  @Override
  public Void visitCompoundAssignment(CompoundAssignmentTree tree, Void none) {
    rule(10, tree.getKind() == Tree.Kind.PLUS_ASSIGNMENT && isText(tree.getVariable()), tree, "texts joined by +=");
    return super.visitCompoundAssignment(tree, none);
  }

  @Override
  public Void visitNewClass(NewClassTree tree, Void none) {
    ExecutableElement made = (ExecutableElement) trees.getElement(getCurrentPath());
    String type = ((TypeElement) made.getEnclosingElement()).getQualifiedName().toString();
    boolean isThrown = getCurrentPath().getParentPath().getLeaf() instanceof ThrowTree;
    boolean isText = type.equals("java.lang.StringBuilder") || type.equals("java.lang.String");
    rule(4, !isThrown && !isOwn(type) && !isText && !type.equals("java.util.ArrayList"), tree, "makes " + type);
    goesTo(made);
    return super.visitNewClass(tree, none);
  }

  @Override
  public Void visitMethodInvocation(MethodInvocationTree tree, Void none) {
    Element called = trees.getElement(getCurrentPath());
    String type = ((TypeElement) called.getEnclosingElement()).getQualifiedName().toString();
    String name = called.getSimpleName().toString();
    boolean isOfNumbers = Set.of("java.lang.Integer", "java.lang.Long", "java.lang.Math").contains(type) && !name.endsWith("Exact");
    boolean isOfObject = type.equals("java.lang.Object") && name.equals("<init>");
    boolean isAllowed = isOwn(type) || isOfNumbers || isOfObject || LIBRARY.getOrDefault(type, Set.of()).contains(name);
    rule(4, !isAllowed, tree, "calls " + type + "." + name);
    goesTo((ExecutableElement) called);
    return super.visitMethodInvocation(tree, none);
  }

  private void goesTo(ExecutableElement called) {
    if (within != null) {
      calls.get(within).add(called);
    }
  }

  // ---- how deep calls go

  /** How many methods of the class stand open at once, at most; rule 8 allows some recursion, but this class needs none. */
  private int depthOf(ExecutableElement method) {
    if (!calls.containsKey(method)) {
      return 0;
    }
    if (depths.containsKey(method)) {
      return depths.get(method);
    }
    if (!open.add(method)) {
      amiss.add("rule 8: calls itself: " + method);
      return 0;
    }
    int deepest = 0;
    for (ExecutableElement called : calls.get(method)) {
      deepest = Math.max(deepest, depthOf(called));
    }
    open.remove(method);
    depths.put(method, deepest + 1);
    return deepest + 1;
  }

  private void depthOfAll() {
    for (ExecutableElement method : calls.keySet()) {
      if (depthOf(method) > DEPTH) {
        amiss.add("rule 11: " + depthOf(method) + " deep: " + method);
      }
    }
  }

  private static LanguageTest read(Path source) throws IOException {
    JavaCompiler compiler = ToolProvider.getSystemJavaCompiler();
    StandardJavaFileManager files = compiler.getStandardFileManager(null, null, null);
    JavacTask task = (JavacTask) compiler.getTask(null, files, null, List.of("-proc:none"), null, files.getJavaFileObjects(source));
    CompilationUnitTree unit = task.parse().iterator().next();
    task.analyze();
    LanguageTest test = new LanguageTest(Trees.instance(task), unit);
    test.scan(unit, null);
    test.depthOfAll();
    return test;
  }

  public static void main(String[] args) throws IOException {
    Path source = Path.of(System.getProperty("project"), "src/main/java/Treebark.java");
    LanguageTest test = read(source);
    check.promise("LANGUAGE.md");
    check.due("what is amiss", List.of(), test.amiss);
    check.due("one class with its own inside", 1, test.unit.getTypeDecls().size());
    check.due("a package line", true, test.unit.getPackage() == null);
    check.due("some twelve classes", true, test.classes <= CLASSES);
    check.due("the methods of the face", 31, test.face.size());
    boolean arePlain = Files.readString(source, StandardCharsets.ISO_8859_1).chars().allMatch(c -> c >= 1 && c <= 127);
    check.due("signs from 1 to 127", true, arePlain);
    check.end();
  }
}
