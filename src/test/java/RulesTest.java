import com.sun.source.tree.BinaryTree;
import com.sun.source.tree.ClassTree;
import com.sun.source.tree.CompilationUnitTree;
import com.sun.source.tree.ImportTree;
import com.sun.source.tree.LiteralTree;
import com.sun.source.tree.MemberSelectTree;
import com.sun.source.tree.MethodInvocationTree;
import com.sun.source.tree.MethodTree;
import com.sun.source.tree.NewClassTree;
import com.sun.source.tree.Tree;
import com.sun.source.tree.VariableTree;
import com.sun.source.util.JavacTask;
import com.sun.source.util.SourcePositions;
import com.sun.source.util.TreePathScanner;
import com.sun.source.util.Trees;
import java.io.IOException;
import java.nio.file.Files;
import java.nio.file.Path;
import java.util.ArrayList;
import java.util.HashMap;
import java.util.HashSet;
import java.util.LinkedHashMap;
import java.util.List;
import java.util.Map;
import java.util.Set;
import java.util.TreeSet;
import java.util.regex.Matcher;
import java.util.regex.Pattern;
import javax.lang.model.element.Element;
import javax.lang.model.element.ElementKind;
import javax.lang.model.element.Modifier;
import javax.tools.JavaCompiler;
import javax.tools.StandardJavaFileManager;
import javax.tools.ToolProvider;

/** Holds BlessLoan.java against the rules of LANGUAGE.md that can be counted or looked up. */
public final class RulesTest {
  private static final Path SOURCE = Path.of("src/main/java/BlessLoan.java");
  private static final Path DOC = Path.of("../shared/DOC.md");
  private static final int LINES = 60;
  private static final int PARAMETERS = 7;
  private static final int DEPTH = 8;
  private static final int CLASSES = 12;
  private static final int FIELDS = 20;
  private static final Set<Tree.Kind> FORBIDDEN = Set.of(
      Tree.Kind.THROW, Tree.Kind.TRY, Tree.Kind.CATCH, Tree.Kind.SYNCHRONIZED, Tree.Kind.ASSERT,
      Tree.Kind.LAMBDA_EXPRESSION, Tree.Kind.MEMBER_REFERENCE);
  private static final Set<String> LIBRARY = Set.of(
      "java.lang.String.length", "java.lang.String.charAt", "java.lang.Math.min",
      "java.lang.Math.max", "java.lang.Math.abs", "java.lang.Integer.bitCount",
      "java.lang.System.arraycopy", "java.util.Arrays.fill");

  private static int wrong = 0;

  private static void rule(int number, String what, boolean kept) {
    if (!kept) {
      wrong++;
      System.out.println("rule " + number + ": " + what);
    }
  }

  private static String face() throws IOException {
    String doc = Files.readString(DOC);
    int from = doc.indexOf("```java");
    return doc.substring(from, doc.indexOf("```", from + 7));
  }

  /** Names of methods that call others, by the caller's name with its class. */
  private static final class Scan extends TreePathScanner<Void, Void> {
    final Trees trees;
    final CompilationUnitTree unit;
    final SourcePositions positions;
    final Map<Element, Set<Element>> calls = new LinkedHashMap<>();
    final Set<String> open = new TreeSet<>();
    final List<Element> hidden = new ArrayList<>();
    Element method = null;
    int classes = 0;

    Scan(Trees trees, CompilationUnitTree unit) {
      this.trees = trees;
      this.unit = unit;
      positions = trees.getSourcePositions();
    }

    private long lines(Tree tree) {
      long from = unit.getLineMap().getLineNumber(positions.getStartPosition(unit, tree));
      return unit.getLineMap().getLineNumber(positions.getEndPosition(unit, tree)) - from + 1;
    }

    private Element element() {
      return trees.getElement(getCurrentPath());
    }

    @Override
    public Void scan(Tree tree, Void v) {
      if (tree != null) {
        rule(6, tree.getKind() + ": " + tree, !FORBIDDEN.contains(tree.getKind()));
      }
      return super.scan(tree, v);
    }

    @Override
    public Void visitImport(ImportTree tree, Void v) {
      rule(4, tree.toString(), tree.getQualifiedIdentifier().toString().equals("java.util.Arrays"));
      return super.visitImport(tree, v);
    }

    @Override
    public Void visitClass(ClassTree tree, Void v) {
      classes++;
      Set<Modifier> modifiers = element().getModifiers();
      boolean outer = element().getEnclosingElement().getKind() == ElementKind.PACKAGE;
      rule(1, tree.getSimpleName() + " is not private and static", outer
          || modifiers.contains(Modifier.STATIC) && modifiers.contains(Modifier.PRIVATE));
      long fields = tree.getMembers().stream()
          .filter(m -> m instanceof VariableTree x
              && !x.getModifiers().getFlags().contains(Modifier.STATIC))
          .count();
      rule(11, tree.getSimpleName() + " has " + fields + " fields", fields <= FIELDS);
      return super.visitClass(tree, v);
    }

    @Override
    public Void visitMethod(MethodTree tree, Void v) {
      method = element();
      calls.putIfAbsent(method, new HashSet<>());
      boolean outer = method.getEnclosingElement().getSimpleName().contentEquals("BlessLoan");
      if (outer && !method.getModifiers().contains(Modifier.PRIVATE)) {
        open.add(tree.getName().toString());
      } else {
        hidden.add(method);
      }
      rule(11, tree.getName() + " has " + lines(tree) + " lines", lines(tree) <= LINES);
      rule(11, tree.getName() + "'s parameters", tree.getParameters().size() <= PARAMETERS);
      super.visitMethod(tree, v);
      method = null;
      return null;
    }

    @Override
    public Void visitVariable(VariableTree tree, Void v) {
      Set<Modifier> modifiers = tree.getModifiers().getFlags();
      if (element().getKind() == ElementKind.FIELD) {
        boolean outer = element().getEnclosingElement().getSimpleName().contentEquals("BlessLoan");
        rule(1, tree.getName() + " is not private", !outer || modifiers.contains(Modifier.PRIVATE)
            || tree.getName().contentEquals("NONE"));
        rule(5, tree.getName() + " is static and no constant", !modifiers.contains(Modifier.STATIC)
            || modifiers.contains(Modifier.FINAL)
            && Set.of("int", "long", "boolean", "char", "String").contains("" + tree.getType()));
      }
      return super.visitVariable(tree, v);
    }

    @Override
    public Void visitBinary(BinaryTree tree, Void v) {
      boolean text = trees.getTypeMirror(getCurrentPath()).toString().equals("java.lang.String");
      rule(10, "texts are joined by +: " + tree, !text || tree.getKind() != Tree.Kind.PLUS);
      return super.visitBinary(tree, v);
    }

    @Override
    public Void visitLiteral(LiteralTree tree, Void v) {
      if (tree.getValue() instanceof String text) {
        rule(4, "a sign of " + tree, text.chars().allMatch(sign -> sign >= 1 && sign <= 127));
      }
      return super.visitLiteral(tree, v);
    }

    /** Of the library's fields an array's length alone is there. */
    @Override
    public Void visitMemberSelect(MemberSelectTree tree, Void v) {
      Element e = element();
      boolean others = e != null && e.getKind() == ElementKind.FIELD
          && !e.getSimpleName().contentEquals("length")
          && !e.getEnclosingElement().toString().startsWith("BlessLoan");
      rule(4, tree + " is not in the library", !others);
      return super.visitMemberSelect(tree, v);
    }

    @Override
    public Void visitNewClass(NewClassTree tree, Void v) {
      rule(2, "a class without a name", tree.getClassBody() == null);
      note();
      return super.visitNewClass(tree, v);
    }

    @Override
    public Void visitMethodInvocation(MethodInvocationTree tree, Void v) {
      note();
      return super.visitMethodInvocation(tree, v);
    }

    private void note() {
      Element called = element();
      String name = called.getEnclosingElement() + "." + called.getSimpleName();
      if (called.getEnclosingElement().toString().startsWith("BlessLoan")) {
        if (method != null) {
          calls.get(method).add(called);
        }
      } else {
        rule(4, name + " is not in the library", LIBRARY.contains(name) || name.endsWith("<init>")
            && name.startsWith("java.lang.Object"));
      }
    }
  }

  private static boolean reaches(Map<Element, Set<Element>> calls, Element from, Element to) {
    Set<Element> met = new HashSet<>();
    List<Element> left = new ArrayList<>(calls.getOrDefault(from, Set.of()));
    while (!left.isEmpty()) {
      Element next = left.remove(left.size() - 1);
      if (next.equals(to)) {
        return true;
      }
      if (met.add(next)) {
        left.addAll(calls.getOrDefault(next, Set.of()));
      }
    }
    return false;
  }

  /** Methods that call one another are recursion (rule 8): they count once together. */
  private static int depth(
      Map<Element, Set<Element>> calls, Element from, Map<Element, Integer> known) {
    if (known.containsKey(from)) {
      return known.get(from);
    }
    Set<Element> circle = new HashSet<>(Set.of(from));
    for (Element other : calls.keySet()) {
      if (reaches(calls, from, other) && reaches(calls, other, from)) {
        circle.add(other);
      }
    }
    int deepest = 0;
    for (Element one : circle) {
      for (Element next : calls.getOrDefault(one, Set.of())) {
        if (!circle.contains(next)) {
          deepest = Math.max(deepest, depth(calls, next, known));
        }
      }
    }
    for (Element one : circle) {
      known.put(one, deepest + 1);
    }
    return deepest + 1;
  }

  private static void recursion(Map<Element, Set<Element>> calls) {
    for (Element method : calls.keySet()) {
      Set<Modifier> modifiers = method.getModifiers();
      rule(8, method + " calls itself and is not private and static",
          !calls.get(method).contains(method)
              || modifiers.contains(Modifier.PRIVATE) && modifiers.contains(Modifier.STATIC));
      rule(8, method + " is called again by whom it calls and is not private",
          !reaches(calls, method, method) || modifiers.contains(Modifier.PRIVATE));
    }
  }

  private static Set<String> namesOf(String face) {
    Set<String> names = new TreeSet<>();
    Matcher m = Pattern.compile("public (?:int |long )?(\\w+)\\(").matcher(face);
    while (m.find()) {
      names.add(m.group(1).equals("BlessLoan") ? "<init>" : m.group(1));
    }
    return names;
  }

  private static void signatures(String face, String source) {
    Matcher m = Pattern.compile("public [^;{]*\\([^)]*\\)").matcher(face);
    while (m.find()) {
      rule(1, m.group() + " is not there", source.contains(m.group() + " {"));
    }
  }

  public static void main(String[] args) throws IOException {
    JavaCompiler compiler = ToolProvider.getSystemJavaCompiler();
    StandardJavaFileManager files = compiler.getStandardFileManager(null, null, null);
    JavacTask task = (JavacTask) compiler.getTask(
        null, files, null, List.of("-proc:none"), null, files.getJavaFileObjects(SOURCE));
    CompilationUnitTree unit = task.parse().iterator().next();
    task.analyze();
    Scan scan = new Scan(Trees.instance(task), unit);
    scan.scan(unit, null);

    Set<String> face = namesOf(face());
    rule(1, "the face is " + scan.open, scan.open.equals(face));
    signatures(face(), Files.readString(SOURCE));
    for (Element hidden : scan.hidden) {
      String name = hidden.getSimpleName().toString();
      rule(1, name + " bears a public name", name.equals("<init>") || !face.contains(name));
    }
    rule(11, scan.classes + " classes", scan.classes <= CLASSES);
    recursion(scan.calls);
    Map<Element, Integer> known = new HashMap<>();
    int deepest = 0;
    for (Element method : scan.calls.keySet()) {
      int depth = depth(scan.calls, method, known);
      deepest = Math.max(deepest, depth);
      rule(11, method + " goes " + depth + " deep", depth <= DEPTH);
    }
    System.out.println(wrong == 0
        ? "the rules are kept, calls go " + deepest + " deep" : wrong + " rules are not kept");
    if (wrong != 0) {
      System.exit(1);
    }
  }
}
