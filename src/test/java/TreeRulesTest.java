import com.sun.source.tree.ArrayAccessTree;
import com.sun.source.tree.AssignmentTree;
import com.sun.source.tree.BinaryTree;
import com.sun.source.tree.CompilationUnitTree;
import com.sun.source.tree.CompoundAssignmentTree;
import com.sun.source.tree.ExpressionTree;
import com.sun.source.tree.MethodInvocationTree;
import com.sun.source.tree.MethodTree;
import com.sun.source.tree.NewArrayTree;
import com.sun.source.tree.NewClassTree;
import com.sun.source.tree.Tree;
import com.sun.source.tree.TypeCastTree;
import com.sun.source.tree.UnaryTree;
import com.sun.source.tree.VariableTree;
import com.sun.source.util.JavacTask;
import com.sun.source.util.TreePath;
import com.sun.source.util.TreePathScanner;
import com.sun.source.util.Trees;
import java.util.ArrayList;
import java.util.List;
import java.util.Map;
import java.util.Set;
import java.util.TreeMap;
import java.util.TreeSet;
import javax.lang.model.element.Element;
import javax.lang.model.element.Modifier;
import javax.lang.model.element.VariableElement;
import javax.lang.model.type.TypeMirror;
import javax.tools.JavaCompiler;
import javax.tools.StandardJavaFileManager;
import javax.tools.ToolProvider;

// What of LANGUAGE.md can be seen from the class's tree as javac understands it.
public final class TreeRulesTest {
  private static final Set<String> KINDS = Set.of("AND", "ARRAY_ACCESS", "ARRAY_TYPE", "ASSIGNMENT", "BLOCK",
      "BOOLEAN_LITERAL", "BREAK", "CASE", "CHAR_LITERAL", "CLASS", "COMPILATION_UNIT", "CONDITIONAL_AND",
      "CONDITIONAL_EXPRESSION", "CONDITIONAL_OR", "CONTINUE", "DIVIDE", "EQUAL_TO", "EXPRESSION_STATEMENT",
      "FOR_LOOP", "GREATER_THAN", "GREATER_THAN_EQUAL", "IDENTIFIER", "IF", "INT_LITERAL", "LEFT_SHIFT", "LESS_THAN",
      "LESS_THAN_EQUAL", "LOGICAL_COMPLEMENT", "LONG_LITERAL", "MEMBER_SELECT", "METHOD", "METHOD_INVOCATION",
      "MINUS", "MODIFIERS", "MULTIPLY", "NEW_ARRAY", "NEW_CLASS", "NOT_EQUAL_TO", "OR", "OR_ASSIGNMENT",
      "PARENTHESIZED", "PLUS", "PLUS_ASSIGNMENT", "POSTFIX_INCREMENT", "PRIMITIVE_TYPE", "REMAINDER", "RETURN",
      "RIGHT_SHIFT", "STRING_LITERAL", "SWITCH", "TYPE_CAST", "UNARY_MINUS", "UNSIGNED_RIGHT_SHIFT", "VARIABLE",
      "WHILE_LOOP");
  private static final Set<String> LIBRARY = Set.of("Integer.bitCount", "Math.max", "Object.<init>",
      "String.charAt", "String.length", "System.arraycopy");
  private static final Set<String> TYPES = Set.of("int", "long", "boolean", "int[]", "long[]", "boolean[]", "String",
      "Island", "Reader", "Search", "Shelves", "Walker");
  private static final int MOST_LINES = 60;
  private static final int MOST_DEEP = 8;

  private static int wrong = 0;

  private static void check(boolean holds, String what) {
    if (!holds) { wrong++; System.out.println("not kept: " + what); }
  }

  private static final class Look extends TreePathScanner<Void, String> {
    final Map<String, Set<String>> calls = new TreeMap<>();
    final Trees trees;
    final CompilationUnitTree unit;
    int made = 0;

    Look(Trees trees, CompilationUnitTree unit) { this.trees = trees; this.unit = unit; }

    private long first(Tree t) { return unit.getLineMap().getLineNumber(trees.getSourcePositions().getStartPosition(unit, t)); }

    private long last(Tree t) { return unit.getLineMap().getLineNumber(trees.getSourcePositions().getEndPosition(unit, t)); }

    private Element element(Tree t) { return trees.getElement(new TreePath(getCurrentPath(), t)); }

    private boolean isText(Tree t) {
      TypeMirror type = trees.getTypeMirror(new TreePath(getCurrentPath(), t));
      return type != null && type.toString().equals("java.lang.String");
    }

    @Override public Void scan(Tree t, String in) {
      if (t != null) check(KINDS.contains(t.getKind().name()), "what the rules leave out, line " + first(t) + ": " + t.getKind());
      return super.scan(t, in);
    }

    @Override public Void visitMethod(MethodTree m, String in) {
      Element e = trees.getElement(getCurrentPath());
      String name = e.getEnclosingElement() + "." + m.getName();
      check(calls.put(name, new TreeSet<>()) == null, "two methods of one name: " + name);
      check(m.getParameters().size() <= 7, "rule 11: parameters of " + name);
      check(last(m) - first(m) < MOST_LINES, "rule 11: lines of " + name);
      return super.visitMethod(m, name);
    }

    @Override public Void visitMethodInvocation(MethodInvocationTree i, String in) {
      Element e = trees.getElement(getCurrentPath());
      Element owner = e.getEnclosingElement();
      if (owner.toString().startsWith("LeftIsAgreedOn")) {
        check(in != null, "rule 12: a field's initialiser calls a method, line " + first(i));
        if (in != null) {
          check(!in.endsWith("<init>"), "rule 12: a constructor calls a method: " + in);
          calls.get(in).add(owner + "." + e.getSimpleName());
        }
      } else {
        check(LIBRARY.contains(owner.getSimpleName() + "." + e.getSimpleName()), "rule 4, line " + first(i) + ": " + e);
      }
      return super.visitMethodInvocation(i, in);
    }

    // all that there is is made with the object, so a run's room doesn't grow by its calls
    @Override public Void visitNewClass(NewClassTree n, String in) {
      made++;
      check(in == null && n.getClassBody() == null, "made by a call, line " + first(n) + ": " + n);
      return super.visitNewClass(n, in);
    }

    @Override public Void visitNewArray(NewArrayTree n, String in) {
      made++;
      check(in == null && n.getDimensions().size() <= 1, "made by a call, line " + first(n) + ": " + n);
      return super.visitNewArray(n, in);
    }

    @Override public Void visitVariable(VariableTree v, String in) {
      check(v.getType() != null && TYPES.contains(v.getType().toString()), "rule 3, line " + first(v) + ": " + v);
      return super.visitVariable(v, in);
    }

    @Override public Void visitTypeCast(TypeCastTree c, String in) {
      check(c.getType().getKind() == Tree.Kind.PRIMITIVE_TYPE, "a cast of objects, line " + first(c));
      return super.visitTypeCast(c, in);
    }

    @Override public Void visitBinary(BinaryTree b, String in) {
      boolean divides = b.getKind() == Tree.Kind.DIVIDE || b.getKind() == Tree.Kind.REMAINDER;
      check(!divides || isNumberBut0(b.getRightOperand()), "rule 7: a divisor, line " + first(b) + ": " + b);
      boolean texts = isText(b.getLeftOperand()) || isText(b.getRightOperand());
      check(!texts, "rules 6 and 10: texts joined or compared, line " + first(b) + ": " + b);
      return super.visitBinary(b, in);
    }

    private boolean isNumberBut0(ExpressionTree t) {
      if (t.getKind() == Tree.Kind.INT_LITERAL) return !t.toString().equals("0");
      return element(t) instanceof VariableElement v && v.getConstantValue() instanceof Integer n && n != 0;
    }

    private void isChanged(Tree t) {
      Tree whole = t instanceof ArrayAccessTree at ? at.getExpression() : t;
      Element e = t instanceof ArrayAccessTree
          ? trees.getElement(new TreePath(new TreePath(getCurrentPath(), t), whole)) : element(whole);
      check(e != null && !e.getModifiers().contains(Modifier.STATIC), "rule 5: changed, line " + first(t) + ": " + t);
    }

    @Override public Void visitAssignment(AssignmentTree a, String in) {
      isChanged(a.getVariable());
      return super.visitAssignment(a, in);
    }

    @Override public Void visitCompoundAssignment(CompoundAssignmentTree a, String in) {
      isChanged(a.getVariable());
      return super.visitCompoundAssignment(a, in);
    }

    @Override public Void visitUnary(UnaryTree u, String in) {
      if (u.getKind() == Tree.Kind.POSTFIX_INCREMENT) isChanged(u.getExpression());
      return super.visitUnary(u, in);
    }

    int deep(String name, List<String> above) {
      if (above.contains(name)) {
        check(false, "calls in a ring: " + above + " " + name);
        return 0;
      }
      List<String> all = new ArrayList<>(above);
      all.add(name);
      int deepest = 0;
      for (String called : calls.getOrDefault(name, Set.of())) deepest = Math.max(deepest, deep(called, all));
      check(deepest > 0 || all.size() <= MOST_DEEP, "rule 11: calls too deep: " + all);
      return deepest + 1;
    }
  }

  public static void main(String[] args) throws Exception {
    JavaCompiler javac = ToolProvider.getSystemJavaCompiler();
    int looked = 0;
    try (StandardJavaFileManager files = javac.getStandardFileManager(null, null, null)) {
      JavacTask task = (JavacTask) javac.getTask(null, files, null, List.of("--release", "17"), null,
          files.getJavaFileObjects("src/main/java/LeftIsAgreedOn.java"));
      Iterable<? extends CompilationUnitTree> units = task.parse();
      task.analyze();
      for (CompilationUnitTree unit : units) {
        check(unit.getPackageName() == null && unit.getImports().isEmpty(), "a package line, or an import");
        Look look = new Look(Trees.instance(task), unit);
        look.scan(unit, null);
        for (String name : look.calls.keySet()) look.deep(name, List.of());
        looked += look.calls.size();
        check(look.made > 10, "what is made is found: " + look.made);
      }
    }
    check(looked > 100, "all methods are looked at: " + looked);
    System.out.println(wrong == 0 ? "all rules that were looked at are kept" : wrong + " rules are not kept");
    if (wrong != 0) System.exit(1);
  }
}
