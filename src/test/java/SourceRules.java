import com.sun.source.tree.BinaryTree;
import com.sun.source.tree.ClassTree;
import com.sun.source.tree.CompilationUnitTree;
import com.sun.source.tree.CompoundAssignmentTree;
import com.sun.source.tree.IdentifierTree;
import com.sun.source.tree.ImportTree;
import com.sun.source.tree.LiteralTree;
import com.sun.source.tree.MemberSelectTree;
import com.sun.source.tree.MethodInvocationTree;
import com.sun.source.tree.MethodTree;
import com.sun.source.tree.NewClassTree;
import com.sun.source.tree.Tree;
import com.sun.source.tree.VariableTree;
import com.sun.source.util.JavacTask;
import com.sun.source.util.TreePath;
import com.sun.source.util.TreePathScanner;
import com.sun.source.util.Trees;
import java.io.IOException;
import java.nio.file.Path;
import java.util.ArrayList;
import java.util.EnumSet;
import java.util.LinkedHashMap;
import java.util.LinkedHashSet;
import java.util.List;
import java.util.Map;
import java.util.Set;
import javax.lang.model.element.Element;
import javax.lang.model.element.ExecutableElement;
import javax.lang.model.element.Modifier;
import javax.lang.model.element.TypeElement;
import javax.lang.model.type.TypeMirror;
import javax.tools.JavaCompiler;
import javax.tools.StandardJavaFileManager;
import javax.tools.ToolProvider;

/** What ../shared/LANGUAGE.md says of the source, looked at in the tree that javac makes of it. */
final class SourceRules extends TreePathScanner<Void, Void> {
  static final int MOST_LINES = 60, MOST_PARAMETERS = 7, MOST_DEPTH = 8, MOST_CLASSES = 12, MOST_FIELDS = 20;

  /**
   * Rules 2, 6, 10: what else a source can have (throw, try, lambdas, annotations ..) is none. Enums and
   * records would be of the language, too, but the class has none.
   */
  private static final Set<Tree.Kind> KINDS = EnumSet.of(
      Tree.Kind.COMPILATION_UNIT, Tree.Kind.IMPORT, Tree.Kind.CLASS, Tree.Kind.INTERFACE, Tree.Kind.METHOD,
      Tree.Kind.VARIABLE, Tree.Kind.MODIFIERS, Tree.Kind.BLOCK, Tree.Kind.EMPTY_STATEMENT, Tree.Kind.EXPRESSION_STATEMENT,
      Tree.Kind.IF, Tree.Kind.FOR_LOOP, Tree.Kind.ENHANCED_FOR_LOOP, Tree.Kind.WHILE_LOOP, Tree.Kind.DO_WHILE_LOOP,
      Tree.Kind.SWITCH, Tree.Kind.CASE, Tree.Kind.BREAK, Tree.Kind.CONTINUE, Tree.Kind.LABELED_STATEMENT,
      Tree.Kind.RETURN, Tree.Kind.CONDITIONAL_EXPRESSION, Tree.Kind.PARENTHESIZED, Tree.Kind.IDENTIFIER,
      Tree.Kind.MEMBER_SELECT, Tree.Kind.METHOD_INVOCATION, Tree.Kind.NEW_CLASS, Tree.Kind.NEW_ARRAY,
      Tree.Kind.ARRAY_ACCESS, Tree.Kind.TYPE_CAST, Tree.Kind.INSTANCE_OF, Tree.Kind.PRIMITIVE_TYPE, Tree.Kind.ARRAY_TYPE,
      Tree.Kind.PARAMETERIZED_TYPE, Tree.Kind.INT_LITERAL, Tree.Kind.LONG_LITERAL, Tree.Kind.CHAR_LITERAL,
      Tree.Kind.STRING_LITERAL, Tree.Kind.BOOLEAN_LITERAL, Tree.Kind.NULL_LITERAL, Tree.Kind.ASSIGNMENT,
      Tree.Kind.PLUS, Tree.Kind.MINUS, Tree.Kind.MULTIPLY, Tree.Kind.DIVIDE, Tree.Kind.REMAINDER, Tree.Kind.AND,
      Tree.Kind.OR, Tree.Kind.XOR, Tree.Kind.LEFT_SHIFT, Tree.Kind.RIGHT_SHIFT, Tree.Kind.UNSIGNED_RIGHT_SHIFT,
      Tree.Kind.CONDITIONAL_AND, Tree.Kind.CONDITIONAL_OR, Tree.Kind.EQUAL_TO, Tree.Kind.NOT_EQUAL_TO,
      Tree.Kind.LESS_THAN, Tree.Kind.LESS_THAN_EQUAL, Tree.Kind.GREATER_THAN, Tree.Kind.GREATER_THAN_EQUAL,
      Tree.Kind.UNARY_MINUS, Tree.Kind.UNARY_PLUS, Tree.Kind.BITWISE_COMPLEMENT, Tree.Kind.LOGICAL_COMPLEMENT,
      Tree.Kind.POSTFIX_INCREMENT, Tree.Kind.POSTFIX_DECREMENT, Tree.Kind.PREFIX_INCREMENT,
      Tree.Kind.PREFIX_DECREMENT, Tree.Kind.PLUS_ASSIGNMENT, Tree.Kind.MINUS_ASSIGNMENT,
      Tree.Kind.MULTIPLY_ASSIGNMENT, Tree.Kind.DIVIDE_ASSIGNMENT, Tree.Kind.REMAINDER_ASSIGNMENT,
      Tree.Kind.AND_ASSIGNMENT, Tree.Kind.OR_ASSIGNMENT, Tree.Kind.XOR_ASSIGNMENT, Tree.Kind.LEFT_SHIFT_ASSIGNMENT,
      Tree.Kind.RIGHT_SHIFT_ASSIGNMENT, Tree.Kind.UNSIGNED_RIGHT_SHIFT_ASSIGNMENT);

  /** Rule 4. */
  private static final Map<String, Set<String>> LIBRARY = Map.of(
      "java.lang.String",
      Set.of("length", "charAt", "isEmpty", "equals", "indexOf", "substring", "toCharArray", "<init>"),
      "java.lang.StringBuilder",
      Set.of("<init>", "append", "charAt", "setCharAt", "setLength", "deleteCharAt", "reverse", "length", "toString"),
      "java.util.ArrayList", Set.of("<init>", "add", "get", "set", "remove", "size", "isEmpty", "clear"),
      "java.util.List", Set.of("add", "get", "set", "remove", "size", "isEmpty", "clear", "of"),
      "java.lang.Integer", Set.of("compare", "max", "min", "bitCount"),
      "java.lang.Long", Set.of("compare", "max", "min", "bitCount"),
      "java.lang.Math", Set.of("max", "min", "abs", "floorDiv", "floorMod"),
      "java.lang.System", Set.of("arraycopy"),
      "java.util.Arrays", Set.of("copyOf", "copyOfRange", "fill"),
      "java.lang.Object", Set.of("<init>"));

  private static final Set<String> IMPORTS = Set.of("java.util.ArrayList", "java.util.List", "java.util.Arrays");
  private static final Set<String> NUMBERS = Set.of("int", "long", "short", "byte", "char", "boolean", "double", "float");
  private static final Set<String> TEXTS = Set.of("java.lang.String", "java.lang.StringBuilder");

  private final JavacTask task;
  private final Trees trees;
  private CompilationUnitTree unit;
  private final List<TypeElement> classes = new ArrayList<>();

  /** By method of the source which of its own methods it may call, overriding ones too. */
  private final Map<ExecutableElement, Set<ExecutableElement>> calls = new LinkedHashMap<>();

  private SourceRules(JavacTask task) {
    this.task = task;
    trees = Trees.instance(task);
  }

  static void all(Path file) throws IOException {
    JavaCompiler compiler = ToolProvider.getSystemJavaCompiler();
    try (StandardJavaFileManager files = compiler.getStandardFileManager(null, null, null)) {
      JavacTask task = (JavacTask) compiler.getTask(null, files, null, List.of("-proc:none"), null,
          files.getJavaFileObjects(file));
      Iterable<? extends CompilationUnitTree> units = task.parse();
      task.analyze();
      SourceRules rules = new SourceRules(task);
      for (CompilationUnitTree unit : units) {
        rules.unit = unit;
        new Declared().scan(unit, rules);
        rules.scan(unit, null);
      }
      rules.graph();
    }
  }

  /** Classes and methods come first, for a call may stand ahead of what it calls. */
  private static final class Declared extends TreePathScanner<Void, SourceRules> {
    @Override
    public Void visitClass(ClassTree tree, SourceRules rules) {
      rules.classes.add((TypeElement) rules.trees.getElement(getCurrentPath()));
      return super.visitClass(tree, rules);
    }

    @Override
    public Void visitMethod(MethodTree tree, SourceRules rules) {
      rules.calls.put((ExecutableElement) rules.trees.getElement(getCurrentPath()), new LinkedHashSet<>());
      return super.visitMethod(tree, rules);
    }
  }

  private long line(Tree tree) {
    return unit.getLineMap().getLineNumber(trees.getSourcePositions().getStartPosition(unit, tree));
  }

  private void holds(Tree tree, String what, boolean is) {
    Due.holds("line " + line(tree) + ": " + what, is);
  }

  @Override
  public Void scan(Tree tree, Void nothing) {
    if (tree != null) {
      Due.holds(tree.getKind() + " is of the language: " + (KINDS.contains(tree.getKind()) ? "" : tree),
          KINDS.contains(tree.getKind()));
    }
    return super.scan(tree, nothing);
  }

  @Override
  public Void visitCompilationUnit(CompilationUnitTree tree, Void nothing) {
    Due.holds("no package", tree.getPackageName() == null);
    Due.is("classes beside each other", tree.getTypeDecls().size(), 1);
    return super.visitCompilationUnit(tree, nothing);
  }

  @Override
  public Void visitImport(ImportTree tree, Void nothing) {
    String name = tree.getQualifiedIdentifier().toString();
    holds(tree, "import of " + name, IMPORTS.contains(name) && !tree.isStatic());
    return null;
  }

  @Override
  public Void visitClass(ClassTree tree, Void nothing) {
    int fields = 0;
    for (Tree member : tree.getMembers()) {
      holds(member, "no block of its own", member.getKind() != Tree.Kind.BLOCK);
      boolean own = member instanceof VariableTree field && !field.getModifiers().getFlags().contains(Modifier.STATIC);
      fields += own ? 1 : 0;
    }
    holds(tree, "some twenty fields: " + fields, fields <= MOST_FIELDS);
    boolean inside = getCurrentPath().getParentPath().getLeaf() instanceof ClassTree;
    Set<Modifier> flags = tree.getModifiers().getFlags();
    holds(tree, "static and hidden, if inside", !inside || flags.contains(Modifier.STATIC) && !flags.contains(Modifier.PUBLIC));
    return super.visitClass(tree, nothing);
  }

  @Override
  public Void visitMethod(MethodTree tree, Void nothing) {
    String name = tree.getName().toString();
    holds(tree, name + " takes seven parameters at most", tree.getParameters().size() <= MOST_PARAMETERS);
    long end = trees.getSourcePositions().getEndPosition(unit, tree);
    long lines = unit.getLineMap().getLineNumber(end) - line(tree) + 1;
    holds(tree, name + " is short: " + lines, lines <= MOST_LINES);
    holds(tree, "no " + name + " of its own", !Set.of("equals", "hashCode", "toString", "finalize").contains(name));
    return super.visitMethod(tree, nothing);
  }

  @Override
  public Void visitVariable(VariableTree tree, Void nothing) {
    TypeMirror type = trees.getTypeMirror(new TreePath(getCurrentPath(), tree.getType()));
    holds(tree, "the type " + type, isOfLanguage(type.toString()));
    Set<Modifier> flags = tree.getModifiers().getFlags();
    if (flags.contains(Modifier.STATIC)) {
      Set<String> constant = Set.of("int", "long", "boolean", "char", "java.lang.String", "int[]", "long[]", "char[]", "byte[]");
      holds(tree, "a constant: " + tree, flags.contains(Modifier.FINAL) && constant.contains(type.toString()));
    }
    return super.visitVariable(tree, nothing);
  }

  /** Rule 3. */
  private boolean isOfLanguage(String type) {
    if (type.endsWith("[][]")) {
      return NUMBERS.contains(type.substring(0, type.length() - 4));
    }
    if (type.endsWith("[]")) {
      String one = type.substring(0, type.length() - 2);
      return NUMBERS.contains(one) || isOwn(one);
    }
    for (String list : List.of("java.util.ArrayList<", "java.util.List<")) {
      if (type.startsWith(list)) {
        String held = type.substring(list.length(), type.length() - 1);
        return held.equals("java.lang.Integer") || isOwn(held);
      }
    }
    return NUMBERS.contains(type) || TEXTS.contains(type) || isOwn(type);
  }

  private boolean isOwn(String type) {
    return classes.stream().anyMatch(own -> own.toString().equals(type));
  }

  @Override
  public Void visitLiteral(LiteralTree tree, Void nothing) {
    if (tree.getValue() instanceof String text) {
      holds(tree, "signs 1 to 127: " + text, text.chars().allMatch(sign -> sign >= 1 && sign <= 127));
    }
    return null;
  }

  @Override
  public Void visitBinary(BinaryTree tree, Void nothing) {
    String left = typeOf(tree.getLeftOperand());
    String right = typeOf(tree.getRightOperand());
    boolean objects = Set.of("java.lang.String", "java.lang.Integer").contains(left) && left.equals(right);
    holds(tree, "no == of " + left, !objects);
    holds(tree, "no + of texts", !left.equals("java.lang.String") && !right.equals("java.lang.String"));
    return super.visitBinary(tree, nothing);
  }

  @Override
  public Void visitCompoundAssignment(CompoundAssignmentTree tree, Void nothing) {
    holds(tree, "no += of texts", !typeOf(tree.getVariable()).equals("java.lang.String"));
    return super.visitCompoundAssignment(tree, nothing);
  }

  private String typeOf(Tree tree) {
    return String.valueOf(trees.getTypeMirror(new TreePath(getCurrentPath(), tree)));
  }

  @Override
  public Void visitMethodInvocation(MethodInvocationTree tree, Void nothing) {
    ExecutableElement called = (ExecutableElement) trees.getElement(getCurrentPath());
    Tree select = tree.getMethodSelect();
    boolean above = select instanceof IdentifierTree named && named.getName().contentEquals("super")
        || select instanceof MemberSelectTree member && member.getExpression().toString().equals("super");
    calls(tree, called, above);
    return super.visitMethodInvocation(tree, nothing);
  }

  @Override
  public Void visitNewClass(NewClassTree tree, Void nothing) {
    calls(tree, (ExecutableElement) trees.getElement(getCurrentPath()), true);
    return super.visitNewClass(tree, nothing);
  }

  private void calls(Tree tree, ExecutableElement called, boolean itself) {
    if (!calls.containsKey(called)) {
      TypeElement owner = (TypeElement) called.getEnclosingElement();
      String name = called.getSimpleName().toString();
      boolean clone = name.equals("clone") && tree.toString().endsWith(".clone()");
      holds(tree, owner + "." + name + " is of the library's part",
          clone || LIBRARY.getOrDefault(owner.toString(), Set.of()).contains(name));
      return;
    }
    Set<ExecutableElement> from = calls.getOrDefault(within(), new LinkedHashSet<>());
    from.add(called);
    for (ExecutableElement other : itself ? Set.<ExecutableElement>of() : calls.keySet()) {
      if (task.getElements().overrides(other, called, (TypeElement) other.getEnclosingElement())) {
        from.add(other);
      }
    }
  }

  /** The method that the place looked at stands in, or null. */
  private Element within() {
    for (TreePath at = getCurrentPath(); at != null; at = at.getParentPath()) {
      if (at.getLeaf() instanceof MethodTree) {
        return trees.getElement(at);
      }
    }
    return null;
  }

  /** Rules 1, 8, 11. */
  private void graph() {
    Due.holds("some twelve classes: " + classes.size(), classes.size() <= MOST_CLASSES);
    Due.holds("methods were seen: " + calls.size(), calls.size() > 80);
    int deepest = 0;
    for (ExecutableElement method : calls.keySet()) {
      List<ExecutableElement> chain = deepest(method, new ArrayList<>());
      deepest = Math.max(deepest, chain.size());
      Due.holds("eight deep at most: " + chain, chain.size() <= MOST_DEPTH);
      if (reaches(method, method, new LinkedHashSet<>())) {
        boolean carries = method.getParameters().stream().anyMatch(given -> given.getSimpleName().contentEquals("within"));
        Due.holds(method + " is recursion, private, and carries its depth",
            carries && method.getModifiers().contains(Modifier.PRIVATE));
      }
    }
    Due.holds("chains were seen: " + deepest, deepest > 4);
  }

  /** The longest chain of calls from a method on, none of them twice. */
  private List<ExecutableElement> deepest(ExecutableElement method, List<ExecutableElement> above) {
    List<ExecutableElement> open = new ArrayList<>(above);
    open.add(method);
    List<ExecutableElement> most = open;
    for (ExecutableElement next : calls.get(method)) {
      if (!open.contains(next)) {
        List<ExecutableElement> chain = deepest(next, open);
        most = chain.size() > most.size() ? chain : most;
      }
    }
    return most;
  }

  private boolean reaches(ExecutableElement from, ExecutableElement to, Set<ExecutableElement> seen) {
    for (ExecutableElement next : calls.get(from)) {
      if (next.equals(to) || seen.add(next) && reaches(next, to, seen)) {
        return true;
      }
    }
    return false;
  }
}
