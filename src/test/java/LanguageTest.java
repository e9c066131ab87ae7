import com.sun.source.tree.BinaryTree;
import com.sun.source.tree.ClassTree;
import com.sun.source.tree.CompilationUnitTree;
import com.sun.source.tree.ConditionalExpressionTree;
import com.sun.source.tree.ExpressionTree;
import com.sun.source.tree.ForLoopTree;
import com.sun.source.tree.LiteralTree;
import com.sun.source.tree.MethodInvocationTree;
import com.sun.source.tree.MethodTree;
import com.sun.source.tree.NewArrayTree;
import com.sun.source.tree.NewClassTree;
import com.sun.source.tree.Tree;
import com.sun.source.tree.TypeCastTree;
import com.sun.source.tree.UnaryTree;
import com.sun.source.tree.VariableTree;
import com.sun.source.tree.WhileLoopTree;
import com.sun.source.util.JavacTask;
import com.sun.source.util.SourcePositions;
import com.sun.source.util.TreePath;
import com.sun.source.util.TreePathScanner;
import com.sun.source.util.Trees;
import java.io.IOException;
import java.nio.file.Files;
import java.nio.file.Path;
import java.util.ArrayList;
import java.util.EnumSet;
import java.util.List;
import java.util.Map;
import java.util.Set;
import java.util.TreeMap;
import java.util.TreeSet;
import javax.lang.model.element.Element;
import javax.lang.model.element.Modifier;
import javax.lang.model.element.VariableElement;
import javax.tools.JavaCompiler;
import javax.tools.StandardJavaFileManager;
import javax.tools.ToolProvider;

/**
 * The rules of LANGUAGE.md that can be seen from the class's own lines, looked up in what the compiler reads there. It is
 * narrower than they are where the class needs less: no text, no list, no cast but to int, nothing made in a method.
 */
public final class LanguageTest {
    private static final Set<Tree.Kind> FORBIDDEN = EnumSet.of(Tree.Kind.THROW, Tree.Kind.TRY, Tree.Kind.CATCH, Tree.Kind.SYNCHRONIZED,
            Tree.Kind.ASSERT, Tree.Kind.LAMBDA_EXPRESSION, Tree.Kind.MEMBER_REFERENCE, Tree.Kind.INSTANCE_OF, Tree.Kind.BINDING_PATTERN,
            Tree.Kind.DO_WHILE_LOOP, Tree.Kind.SWITCH_EXPRESSION, Tree.Kind.YIELD, Tree.Kind.IMPORT, Tree.Kind.PACKAGE, Tree.Kind.ANNOTATION,
            Tree.Kind.NULL_LITERAL, Tree.Kind.STRING_LITERAL, Tree.Kind.DOUBLE_LITERAL, Tree.Kind.FLOAT_LITERAL, Tree.Kind.INTERFACE,
            Tree.Kind.ENUM, Tree.Kind.RECORD, Tree.Kind.PARAMETERIZED_TYPE);
    private static final Set<String> LIBRARY = Set.of("java.lang.Math.min", "java.lang.Math.max", "java.lang.Integer.bitCount");
    private static final Set<String> TYPES = Set.of("int", "long", "boolean", "int[]", "boolean[]", "Post[]", "Country", "Reader", "Post", "Past",
            "Images", "Questions", "Book");
    private static final int MOST_LINES = 60;
    private static final int MOST_DEEP = 8;
    private static final int MOST_PARAMETERS = 7;
    private static final int MOST_CLASSES = 12;

    private final Checks checks = new Checks();
    private final Map<String, Set<String>> calls = new TreeMap<>();
    private int classes;

    public static void main(String[] args) throws IOException {
        LanguageTest test = new LanguageTest();
        Path path = Path.of(System.getProperty("project", ".")).resolve("src/main/java/MindDuty.java");
        test.letters(Files.readString(path));
        test.rules(path);
        test.depth();
        test.checks.end();
    }

    private void letters(String source) {
        checks.holds("signs 1 to 127 alone", source.chars().allMatch(c -> c > 0 && c < 128));
    }

    private void rules(Path path) throws IOException {
        JavaCompiler compiler = ToolProvider.getSystemJavaCompiler();
        checks.holds("there is a compiler", compiler != null);
        if (compiler == null) {
            return;
        }
        try (StandardJavaFileManager files = compiler.getStandardFileManager(null, null, null)) {
            JavacTask task = (JavacTask) compiler.getTask(null, files, null, List.of("-proc:none"), null, files.getJavaFileObjects(path));
            Iterable<? extends CompilationUnitTree> units = task.parse();
            task.analyze();
            for (CompilationUnitTree unit : units) {
                new Look(unit, Trees.instance(task)).scan(unit, null);
            }
        }
        checks.holds("twelve classes at most, not " + classes, classes > 1 && classes <= MOST_CLASSES);
    }

    /** Calls go at most eight deep; the one method that calls itself is private, static and carries its depth. */
    private void depth() {
        int deepest = 0;
        for (String method : calls.keySet()) {
            deepest = Math.max(deepest, deep(method, new ArrayList<>()));
        }
        checks.holds("calls go " + deepest + " deep, eight at most", deepest > 1 && deepest <= MOST_DEEP);
    }

    private int deep(String method, List<String> open) {
        checks.holds(open + " does not come back to " + method, !open.contains(method));
        if (open.contains(method)) {
            return 0;
        }
        open.add(method);
        int most = 0;
        for (String called : calls.getOrDefault(method, Set.of())) {
            boolean itself = called.equals(method);
            checks.holds(method + " does not call itself", !itself || method.equals("MindDuty.fewestMinutes"));
            most = Math.max(most, itself ? 0 : deep(called, open));
        }
        open.remove(method);
        return most + 1;
    }

    /** One walk over the whole file. */
    private final class Look extends TreePathScanner<Void, Void> {
        private final CompilationUnitTree unit;
        private final Trees trees;
        private final SourcePositions positions;

        Look(CompilationUnitTree unit, Trees trees) {
            this.unit = unit;
            this.trees = trees;
            positions = trees.getSourcePositions();
        }

        private long line(Tree tree) {
            return unit.getLineMap().getLineNumber(positions.getStartPosition(unit, tree));
        }

        private String at(Tree tree) {
            return "line " + line(tree) + ": " + tree.toString().strip().lines().findFirst().orElse("") + ": ";
        }

        private TreePath above(Tree.Kind... kinds) {
            Set<Tree.Kind> wanted = EnumSet.copyOf(List.of(kinds));
            for (TreePath path = getCurrentPath().getParentPath(); path != null; path = path.getParentPath()) {
                if (wanted.contains(path.getLeaf().getKind())) {
                    return path;
                }
            }
            return null;
        }

        @Override
        public Void scan(Tree tree, Void nothing) {
            if (tree != null) {
                checks.holds(at(tree) + "no " + tree.getKind(), !FORBIDDEN.contains(tree.getKind()));
            }
            return super.scan(tree, nothing);
        }

        /** Rule 12, and the room of a run: what is made is made with the object. */
        private void made(Tree tree) {
            TreePath method = above(Tree.Kind.METHOD);
            checks.holds(at(tree) + "is made in a field or a constructor", method == null || ((MethodTree) method.getLeaf()).getName().contentEquals("<init>"));
        }

        @Override
        public Void visitNewClass(NewClassTree tree, Void nothing) {
            made(tree);
            checks.holds(at(tree) + "has no body of its own", tree.getClassBody() == null);
            return super.visitNewClass(tree, nothing);
        }

        @Override
        public Void visitNewArray(NewArrayTree tree, Void nothing) {
            made(tree);
            checks.holds(at(tree) + "is as long as a constant says", tree.getDimensions().size() == 1 && tree.getDimensions().get(0).toString().startsWith("MOST_"));
            return super.visitNewArray(tree, nothing);
        }

        @Override
        public Void visitClass(ClassTree tree, Void nothing) {
            classes++;
            boolean outer = tree.getSimpleName().contentEquals("MindDuty");
            Set<Modifier> modifiers = tree.getModifiers().getFlags();
            Tree parent = getCurrentPath().getParentPath().getLeaf();
            checks.holds(at(tree) + "stands in the one class", outer ? parent == unit : parent instanceof ClassTree);
            checks.holds(at(tree) + "is private, static and final", outer || modifiers.containsAll(Set.of(Modifier.PRIVATE, Modifier.STATIC, Modifier.FINAL)));
            checks.holds(at(tree) + "extends nothing", tree.getExtendsClause() == null && tree.getImplementsClause().isEmpty());
            for (Tree member : tree.getMembers()) {
                checks.holds(at(member) + "is a field, a method or a class", EnumSet.of(Tree.Kind.VARIABLE, Tree.Kind.METHOD, Tree.Kind.CLASS).contains(member.getKind()));
            }
            return super.visitClass(tree, nothing);
        }

        @Override
        public Void visitMethod(MethodTree tree, Void nothing) {
            checks.holds(at(tree) + "seven parameters at most", tree.getParameters().size() <= MOST_PARAMETERS);
            checks.holds(at(tree) + "declares nothing thrown", tree.getThrows().isEmpty());
            long lines = unit.getLineMap().getLineNumber(positions.getEndPosition(unit, tree)) - line(tree) + 1;
            checks.holds(at(tree) + "sixty lines at most, not " + lines, lines <= MOST_LINES);
            if (positions.getEndPosition(unit, tree) >= 0) {
                calls.putIfAbsent(nameOf(trees.getElement(getCurrentPath())), new TreeSet<>());
            }
            return super.visitMethod(tree, nothing);
        }

        private String nameOf(Element method) {
            return method.getEnclosingElement().getSimpleName() + "." + method.getSimpleName();
        }

        @Override
        public Void visitVariable(VariableTree tree, Void nothing) {
            checks.holds(at(tree) + "is of a type told", TYPES.contains(tree.getType().toString()));
            VariableElement element = (VariableElement) trees.getElement(getCurrentPath());
            boolean isStatic = element.getModifiers().contains(Modifier.STATIC);
            checks.holds(at(tree) + "is a constant if it is static", !isStatic || element.getConstantValue() != null);
            return super.visitVariable(tree, nothing);
        }

        @Override
        public Void visitMethodInvocation(MethodInvocationTree tree, Void nothing) {
            Element called = trees.getElement(getCurrentPath());
            boolean own = called.getEnclosingElement().toString().startsWith("MindDuty");
            // each constructor begins with a call of Object's, which no line shows
            boolean unseen = called.getSimpleName().contentEquals("<init>");
            checks.holds(at(tree) + "is own or of the library's list", own || unseen || LIBRARY.contains(called.getEnclosingElement() + "." + called.getSimpleName()));
            TreePath method = above(Tree.Kind.METHOD);
            if (own && method != null) {
                calls.computeIfAbsent(nameOf(trees.getElement(method)), name -> new TreeSet<>()).add(nameOf(called));
            }
            return super.visitMethodInvocation(tree, nothing);
        }

        @Override
        public Void visitTypeCast(TypeCastTree tree, Void nothing) {
            checks.holds(at(tree) + "is a cast to int", tree.getType().toString().equals("int"));
            return super.visitTypeCast(tree, nothing);
        }

        @Override
        public Void visitBinary(BinaryTree tree, Void nothing) {
            if (tree.getKind() == Tree.Kind.DIVIDE || tree.getKind() == Tree.Kind.REMAINDER) {
                checks.holds(at(tree) + "the divisor was looked at", isNotZero(tree.getRightOperand()));
            }
            return super.visitBinary(tree, nothing);
        }

        /** A number written out, a constant, or what the condition of a '?' around it is about. */
        private boolean isNotZero(ExpressionTree divisor) {
            if (divisor instanceof LiteralTree literal) {
                return !literal.toString().equals("0");
            }
            Element element = trees.getElement(new TreePath(getCurrentPath(), divisor));
            if (element instanceof VariableElement variable && variable.getConstantValue() instanceof Integer value) {
                return value != 0;
            }
            TreePath choice = above(Tree.Kind.CONDITIONAL_EXPRESSION);
            return choice != null && ((ConditionalExpressionTree) choice.getLeaf()).getCondition().toString().matches("\\(?" + divisor + " (== 0|< 1)\\)?");
        }

        /** Rule 9: a counter that goes up by one, against a bound, and is set nowhere else. */
        @Override
        public Void visitForLoop(ForLoopTree tree, Void nothing) {
            boolean counted = tree.getInitializer().size() == 1 && tree.getUpdate().size() == 1 && tree.getCondition() != null;
            checks.holds(at(tree) + "has one counter", counted);
            if (counted) {
                String name = ((VariableTree) tree.getInitializer().get(0)).getName().toString();
                checks.holds(at(tree) + "goes up by one", tree.getUpdate().get(0).toString().equals(name + "++;"));
                checks.holds(at(tree) + "has a bound", tree.getCondition().toString().matches(name + " <=? [\\w.]+"));
                checks.holds(at(tree) + "sets its counter nowhere else", !tree.getStatement().toString().matches("(?s).*\\b" + name + " ?(=[^=]|[-+*/%&|^]=|\\+\\+|--).*"));
            }
            return super.visitForLoop(tree, nothing);
        }

        @Override
        public Void visitWhileLoop(WhileLoopTree tree, Void nothing) {
            checks.holds(at(tree) + "goes on to the text's end at most", tree.getCondition().toString().contains("at < length && "));
            checks.holds(at(tree) + "goes on by one letter", tree.getStatement().toString().contains("at++;"));
            return super.visitWhileLoop(tree, nothing);
        }

        @Override
        public Void visitUnary(UnaryTree tree, Void nothing) {
            boolean backward = tree.getKind() == Tree.Kind.POSTFIX_DECREMENT || tree.getKind() == Tree.Kind.PREFIX_DECREMENT;
            checks.holds(at(tree) + "counts back only what can be undone", !backward || tree.getExpression().toString().equals("count"));
            return super.visitUnary(tree, nothing);
        }
    }
}
