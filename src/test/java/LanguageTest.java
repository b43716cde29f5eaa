import com.sun.source.tree.AssignmentTree;
import com.sun.source.tree.BinaryTree;
import com.sun.source.tree.ClassTree;
import com.sun.source.tree.CompilationUnitTree;
import com.sun.source.tree.CompoundAssignmentTree;
import com.sun.source.tree.ConditionalExpressionTree;
import com.sun.source.tree.DoWhileLoopTree;
import com.sun.source.tree.ExpressionTree;
import com.sun.source.tree.ForLoopTree;
import com.sun.source.tree.IdentifierTree;
import com.sun.source.tree.ImportTree;
import com.sun.source.tree.LiteralTree;
import com.sun.source.tree.MemberSelectTree;
import com.sun.source.tree.MethodInvocationTree;
import com.sun.source.tree.MethodTree;
import com.sun.source.tree.ModifiersTree;
import com.sun.source.tree.NewArrayTree;
import com.sun.source.tree.NewClassTree;
import com.sun.source.tree.ParenthesizedTree;
import com.sun.source.tree.StatementTree;
import com.sun.source.tree.ThrowTree;
import com.sun.source.tree.Tree;
import com.sun.source.tree.UnaryTree;
import com.sun.source.tree.VariableTree;
import com.sun.source.tree.WhileLoopTree;
import com.sun.source.util.JavacTask;
import com.sun.source.util.TreePath;
import com.sun.source.util.TreePathScanner;
import com.sun.source.util.TreeScanner;
import com.sun.source.util.Trees;
import java.io.File;
import java.io.IOException;
import java.util.ArrayList;
import java.util.HashSet;
import java.util.LinkedHashMap;
import java.util.LinkedHashSet;
import java.util.List;
import java.util.Map;
import java.util.Set;
import javax.lang.model.element.Element;
import javax.lang.model.element.ElementKind;
import javax.lang.model.element.ExecutableElement;
import javax.lang.model.element.Modifier;
import javax.lang.model.element.TypeElement;
import javax.lang.model.element.VariableElement;
import javax.tools.JavaCompiler;
import javax.tools.StandardJavaFileManager;
import javax.tools.ToolProvider;

/**
 * The rules of LANGUAGE.md that can be read off the source, by the compiler's own trees. Where the program uses less
 * than a rule leaves, only what it uses is let through. Rule 1 is in FaceTest, 7 and 13 are in AnyCallTest, and what
 * a run makes (12) is in RoomTest.
 */
public final class LanguageTest {
  private static final String SOURCE = "src/main/java/NulledForest.java";
  private static final Set<String> EXCEPTIONS = Set.of("IllegalStateException", "IllegalArgumentException",
      "IndexOutOfBoundsException", "ArithmeticException", "UnsupportedOperationException", "NoSuchElementException",
      "RuntimeException");
  private static final Set<String> IMPORTS = Set.of("java.util.Arrays", "java.util.NoSuchElementException",
      "java.util.ArrayList", "java.util.List");
  private static final Set<String> LIBRARY = Set.of("java.util.Arrays.fill", "java.util.Arrays.copyOf",
      "java.util.Arrays.copyOfRange", "java.lang.System.arraycopy", "java.lang.Long.bitCount",
      "java.lang.Integer.bitCount", "java.lang.Math.min", "java.lang.Math.max", "java.lang.Math.abs");
  /** What never stands in the file, and by which rule. */
  private static final Map<Tree.Kind, Integer> NEVER = Map.of(Tree.Kind.LAMBDA_EXPRESSION, 2,
      Tree.Kind.MEMBER_REFERENCE, 2, Tree.Kind.PARAMETERIZED_TYPE, 3, Tree.Kind.DOUBLE_LITERAL, 3,
      Tree.Kind.FLOAT_LITERAL, 3, Tree.Kind.TRY, 6, Tree.Kind.SYNCHRONIZED, 6, Tree.Kind.ASSERT, 6,
      Tree.Kind.INSTANCE_OF, 6);

  private static final Checks checks = new Checks("LanguageTest");
  private static CompilationUnitTree unit;
  private static Trees trees;
  private static final Map<ExecutableElement, Set<ExecutableElement>> calls = new LinkedHashMap<>();

  public static void main(String[] args) throws IOException {
    read(new File(args.length == 0 ? SOURCE : args[0]));
    checks.due("packages", unit.getPackage() == null ? 0 : 1, 0);
    checks.due("classes of the file", unit.getTypeDecls().size(), 1);
    for (ImportTree taken : unit.getImports()) {
      String name = taken.getQualifiedIdentifier().toString();
      rule(4, "import " + name, IMPORTS.contains(name) && !taken.isStatic());
    }
    new Reader().scan(unit, null);
    checks.due("whether calls were seen", calls.size() > 50, true);
    for (ExecutableElement method : calls.keySet()) {
      rule(11, depth(method, new HashSet<>()) + " calls deep from " + method, depth(method, new HashSet<>()) <= 8);
    }
    checks.end();
  }

  private static void read(File source) throws IOException {
    JavaCompiler compiler = ToolProvider.getSystemJavaCompiler();
    try (StandardJavaFileManager files = compiler.getStandardFileManager(null, null, null)) {
      List<String> options = List.of("--release", "17", "-proc:none");
      JavacTask task =
          (JavacTask) compiler.getTask(null, files, null, options, null, files.getJavaFileObjects(source));
      unit = task.parse().iterator().next();
      task.analyze();
      trees = Trees.instance(task);
    }
  }

  private static void rule(int number, String what, boolean kept) {
    checks.says("rule " + number);
    checks.due(what, kept, true);
  }

  /** How many calls stand open at once, this one among them; a method that comes again is recursion. */
  private static int depth(ExecutableElement method, Set<ExecutableElement> open) {
    if (!open.add(method)) {
      rule(8, "recursion of " + method, false);
      return 0;
    }
    int deepest = 0;
    for (ExecutableElement called : calls.getOrDefault(method, Set.of())) {
      deepest = Math.max(deepest, depth(called, open));
    }
    open.remove(method);
    return deepest + 1;
  }

  private static boolean isOwn(Element element) {
    Element at = element;
    while (at != null && !(at instanceof TypeElement top && top.getQualifiedName().contentEquals("NulledForest"))) {
      at = at.getEnclosingElement();
    }
    return at != null;
  }

  private static boolean isStatic(ModifiersTree modifiers) {
    return modifiers.getFlags().contains(Modifier.STATIC);
  }

  /** Goes through the whole file. */
  private static final class Reader extends TreePathScanner<Void, Void> {
    private int classes;

    private Element element() {
      return trees.getElement(getCurrentPath());
    }

    private String where(Tree tree) {
      long line = unit.getLineMap().getLineNumber(trees.getSourcePositions().getStartPosition(unit, tree));
      return "line " + line + ": " + tree.toString().strip().lines().findFirst().orElse("");
    }

    private <T extends Tree> T around(Class<T> kind) {
      for (TreePath path = getCurrentPath().getParentPath(); path != null; path = path.getParentPath()) {
        if (kind.isInstance(path.getLeaf())) {
          return kind.cast(path.getLeaf());
        }
      }
      return null;
    }

    @Override
    public Void scan(Tree tree, Void none) {
      if (tree != null && NEVER.containsKey(tree.getKind())) {
        rule(NEVER.get(tree.getKind()), where(tree) + " is a " + tree.getKind(), false);
      }
      return super.scan(tree, none);
    }

    @Override
    public Void visitClass(ClassTree tree, Void none) {
      classes++;
      rule(11, classes + " classes", classes <= 12);
      int fields = 0;
      for (Tree member : tree.getMembers()) {
        rule(5, "initialiser block in " + tree.getSimpleName(), member.getKind() != Tree.Kind.BLOCK);
        fields += member instanceof VariableTree field && !isStatic(field.getModifiers()) ? 1 : 0;
      }
      rule(11, fields + " fields of " + tree.getSimpleName(), fields <= 20);
      rule(2, tree.getSimpleName() + " is a plain class", tree.getKind() == Tree.Kind.CLASS);
      rule(2, tree.getSimpleName() + " is static", classes == 1
          || isStatic(tree.getModifiers()) && around(MethodTree.class) == null);
      return super.visitClass(tree, none);
    }

    @Override
    public Void visitVariable(VariableTree tree, Void none) {
      VariableElement variable = (VariableElement) element();
      String type = variable.asType().toString();
      boolean number = Set.of("int", "long", "boolean", "int[]", "long[]").contains(type);
      rule(3, where(tree) + " is a " + type, number || type.startsWith("NulledForest."));
      if (variable.getModifiers().contains(Modifier.STATIC)) {
        rule(5, where(tree) + " is constant", variable.getConstantValue() != null);
      }
      return super.visitVariable(tree, none);
    }

    @Override
    public Void visitMethod(MethodTree tree, Void none) {
      calls.computeIfAbsent((ExecutableElement) element(), m -> new LinkedHashSet<>());
      rule(11, tree.getName() + " takes " + tree.getParameters().size(), tree.getParameters().size() <= 7);
      long begin = trees.getSourcePositions().getStartPosition(unit, tree);
      long end = trees.getSourcePositions().getEndPosition(unit, tree);
      // A constructor that is not written has no end.
      long lines = end < 0 ? 0 : unit.getLineMap().getLineNumber(end) - unit.getLineMap().getLineNumber(begin);
      rule(11, tree.getName() + " has " + lines + " lines", lines <= 60);
      return super.visitMethod(tree, none);
    }

    @Override
    public Void visitMethodInvocation(MethodInvocationTree tree, Void none) {
      ExecutableElement called = (ExecutableElement) element();
      MethodTree caller = around(MethodTree.class);
      if (isOwn(called)) {
        ExecutableElement from = (ExecutableElement) trees.getElement(trees.getPath(unit, caller));
        calls.computeIfAbsent(from, m -> new LinkedHashSet<>()).add(called);
      } else if (called.getKind() != ElementKind.CONSTRUCTOR) {
        String name = called.getEnclosingElement() + "." + called.getSimpleName();
        rule(4, where(tree) + " calls " + name, LIBRARY.contains(name));
      }
      return super.visitMethodInvocation(tree, none);
    }

    @Override
    public Void visitMemberSelect(MemberSelectTree tree, Void none) {
      if (element() instanceof VariableElement field && !tree.getIdentifier().contentEquals("length")) {
        rule(4, where(tree), isOwn(field));
      }
      return super.visitMemberSelect(tree, none);
    }

    @Override
    public Void visitNewClass(NewClassTree tree, Void none) {
      boolean thrown = getCurrentPath().getParentPath().getLeaf() instanceof ThrowTree;
      rule(12, where(tree) + " is made by a constructor", thrown || isInConstructor());
      rule(2, where(tree) + " has no body", tree.getClassBody() == null);
      return super.visitNewClass(tree, none);
    }

    @Override
    public Void visitNewArray(NewArrayTree tree, Void none) {
      rule(12, where(tree) + " is made by a constructor", isInConstructor());
      rule(3, where(tree) + " has one dimension", tree.getDimensions().size() == 1);
      return super.visitNewArray(tree, none);
    }

    /** An object's field is set by its constructor, so what stands outside all methods counts as in it. */
    private boolean isInConstructor() {
      MethodTree method = around(MethodTree.class);
      return (method == null || method.getReturnType() == null) && around(ForLoopTree.class) == null;
    }

    @Override
    public Void visitThrow(ThrowTree tree, Void none) {
      boolean plain = tree.getExpression() instanceof NewClassTree made
          && EXCEPTIONS.contains(made.getIdentifier().toString())
          && (made.getArguments().isEmpty() || made.getArguments().get(0) instanceof LiteralTree);
      rule(6, where(tree) + " is a plain throw", plain);
      rule(6, where(tree) + " is in no constructor", around(MethodTree.class).getReturnType() != null);
      return super.visitThrow(tree, none);
    }

    @Override
    public Void visitBinary(BinaryTree tree, Void none) {
      boolean divides = tree.getKind() == Tree.Kind.DIVIDE || tree.getKind() == Tree.Kind.REMAINDER;
      if (divides) {
        rule(7, where(tree) + " has a divisor that is looked at", isSafeDivisor(tree.getRightOperand()));
      }
      String type = trees.getTypeMirror(getCurrentPath()).toString();
      rule(10, where(tree) + " is a " + type, Set.of("int", "long", "boolean").contains(type));
      return super.visitBinary(tree, none);
    }

    /** A constant that is not 0, or what the condition of the ?: around it holds against 1. */
    private boolean isSafeDivisor(ExpressionTree divisor) {
      Tree plain = divisor instanceof ParenthesizedTree inside ? inside.getExpression() : divisor;
      ConditionalExpressionTree choice = around(ConditionalExpressionTree.class);
      return isConstant(plain) || choice != null && choice.getCondition().toString().equals(plain + " > 1");
    }

    private boolean isConstant(Tree tree) {
      if (tree instanceof BinaryTree product) {
        return isConstant(product.getLeftOperand()) && isConstant(product.getRightOperand());
      }
      Element name = tree instanceof IdentifierTree ? trees.getElement(trees.getPath(unit, tree)) : null;
      return tree instanceof LiteralTree number && !number.getValue().equals(0)
          || name instanceof VariableElement constant && constant.getConstantValue() instanceof Integer n && n > 0;
    }

    @Override
    public Void visitWhileLoop(WhileLoopTree tree, Void none) {
      rule(9, where(tree) + " has no counter", false);
      return super.visitWhileLoop(tree, none);
    }

    @Override
    public Void visitDoWhileLoop(DoWhileLoopTree tree, Void none) {
      rule(9, where(tree) + " has no counter", false);
      return super.visitDoWhileLoop(tree, none);
    }

    @Override
    public Void visitForLoop(ForLoopTree tree, Void none) {
      boolean one = tree.getInitializer().size() == 1 && tree.getInitializer().get(0) instanceof VariableTree
          && tree.getUpdate().size() == 1 && tree.getUpdate().get(0).getExpression() instanceof UnaryTree;
      rule(9, where(tree) + " has one counter", one);
      if (one) {
        String counter = ((VariableTree) tree.getInitializer().get(0)).getName().toString();
        UnaryTree step = (UnaryTree) tree.getUpdate().get(0).getExpression();
        boolean up = step.getKind() == Tree.Kind.POSTFIX_INCREMENT;
        rule(9, where(tree) + " counts", step.getExpression().toString().equals(counter)
            && (up || step.getKind() == Tree.Kind.POSTFIX_DECREMENT));
        rule(9, where(tree) + " has a bound", isBounded(tree.getCondition(), counter, up));
        rule(9, where(tree) + " leaves its counter alone", !changes(tree.getStatement(), counter));
      }
      return super.visitForLoop(tree, none);
    }

    /** One of the parts that are joined by && holds the counter against a bound. */
    private static boolean isBounded(ExpressionTree condition, String counter, boolean up) {
      if (!(condition instanceof BinaryTree test)) {
        return false;
      }
      if (test.getKind() == Tree.Kind.CONDITIONAL_AND) {
        return isBounded(test.getLeftOperand(), counter, up) || isBounded(test.getRightOperand(), counter, up);
      }
      Set<Tree.Kind> kinds = up ? Set.of(Tree.Kind.LESS_THAN, Tree.Kind.LESS_THAN_EQUAL)
          : Set.of(Tree.Kind.GREATER_THAN, Tree.Kind.GREATER_THAN_EQUAL);
      String left = test.getLeftOperand().toString();
      return kinds.contains(test.getKind()) && (left.equals(counter) || left.startsWith(counter + " + "));
    }

    private static boolean changes(StatementTree body, String counter) {
      List<Tree> found = new ArrayList<>();
      new TreeScanner<Void, Void>() {
        @Override
        public Void scan(Tree tree, Void none) {
          if (counter.equals(changed(tree))) {
            found.add(tree);
          }
          return super.scan(tree, none);
        }
      }.scan(body, null);
      return !found.isEmpty();
    }

    /** What an expression writes to; an empty text when it writes to nothing. */
    private static String changed(Tree tree) {
      if (tree instanceof AssignmentTree set) {
        return set.getVariable().toString();
      }
      if (tree instanceof CompoundAssignmentTree add) {
        return add.getVariable().toString();
      }
      boolean steps = tree instanceof UnaryTree && tree.getKind().name().matches("P.*FIX_(IN|DE)CREMENT");
      return steps ? ((UnaryTree) tree).getExpression().toString() : "";
    }
  }
}
