import com.sun.source.tree.BinaryTree;
import com.sun.source.tree.ClassTree;
import com.sun.source.tree.CompilationUnitTree;
import com.sun.source.tree.DoWhileLoopTree;
import com.sun.source.tree.ExpressionTree;
import com.sun.source.tree.ForLoopTree;
import com.sun.source.tree.ImportTree;
import com.sun.source.tree.LineMap;
import com.sun.source.tree.MethodInvocationTree;
import com.sun.source.tree.MethodTree;
import com.sun.source.tree.NewArrayTree;
import com.sun.source.tree.NewClassTree;
import com.sun.source.tree.ThrowTree;
import com.sun.source.tree.Tree;
import com.sun.source.tree.TypeCastTree;
import com.sun.source.tree.VariableTree;
import com.sun.source.tree.WhileLoopTree;
import com.sun.source.util.JavacTask;
import com.sun.source.util.SourcePositions;
import com.sun.source.util.TreePath;
import com.sun.source.util.TreePathScanner;
import com.sun.source.util.Trees;
import java.io.File;
import java.io.IOException;
import java.util.HashMap;
import java.util.HashSet;
import java.util.List;
import java.util.Map;
import java.util.Set;
import java.util.TreeSet;
import javax.lang.model.element.Element;
import javax.lang.model.element.ElementKind;
import javax.lang.model.element.ExecutableElement;
import javax.lang.model.element.Modifier;
import javax.lang.model.element.TypeElement;
import javax.tools.JavaCompiler;
import javax.tools.StandardJavaFileManager;
import javax.tools.ToolProvider;

/**
 * The rules of LANGUAGE.md that can be seen in the source of the class; run it where src is, or with a path of another
 * source. Where the class needs less than a rule leaves (no try, no list, no recursion, nothing made in a call), this
 * test leaves less, too.
 */
public final class LanguageTest {
    private static final String SOURCE = "src/main/java/TermShelf.java";
    private static final int MOST_PARAMETERS = 7;
    private static final int MOST_LINES = 60;
    private static final int MOST_CLASSES = 12;
    private static final int MOST_FIELDS = 20;
    private static final int MOST_CALLS_DEEP = 8;
    private static final Set<String> TYPES = Set.of("int", "long", "short", "byte", "char", "boolean", "String");
    private static final Set<String> MATHS = Set.of("Math", "Integer", "Long");
    private static final Set<String> THROWN = Set.of("IllegalStateException", "IllegalArgumentException",
        "IndexOutOfBoundsException", "ArithmeticException", "UnsupportedOperationException",
        "NoSuchElementException", "RuntimeException");
    private static final Set<Tree.Kind> LEFT_OUT = Set.of(Tree.Kind.LAMBDA_EXPRESSION, Tree.Kind.MEMBER_REFERENCE,
        Tree.Kind.SYNCHRONIZED, Tree.Kind.ASSERT, Tree.Kind.TRY, Tree.Kind.FLOAT_LITERAL, Tree.Kind.DOUBLE_LITERAL);

    public static void main(String[] args) throws IOException {
        JavaCompiler compiler = ToolProvider.getSystemJavaCompiler();
        try (StandardJavaFileManager files = compiler.getStandardFileManager(null, null, null)) {
            JavacTask task = (JavacTask) compiler.getTask(null, files, null, List.of("-proc:none"), null,
                files.getJavaFileObjects(new File(args.length > 0 ? args[0] : SOURCE)));
            CompilationUnitTree unit = task.parse().iterator().next();
            task.analyze();
            Scan scan = new Scan(Trees.instance(task), unit);
            scan.scan(new TreePath(unit), null);
            scan.lookAtAll();
        }
        Due.end("LanguageTest");
    }

    private static void holds(String rule, boolean kept) {
        Due.due("rule " + rule, kept ? 1 : 0, 1);
    }

    /** Goes through the source once; what is about all of it is looked at in the end. */
    private static final class Scan extends TreePathScanner<Void, Void> {
        private final Trees trees;
        private final CompilationUnitTree unit;
        private final SourcePositions positions;
        private final LineMap lines;
        private final Set<String> classes = new TreeSet<>();
        private final Set<String> face = new TreeSet<>();
        private final Set<String> hidden = new TreeSet<>();
        private final Map<ExecutableElement, Set<ExecutableElement>> calls = new HashMap<>();
        private final Map<ExecutableElement, Integer> depths = new HashMap<>();
        private final Set<ExecutableElement> open = new HashSet<>();

        Scan(Trees trees, CompilationUnitTree unit) {
            this.trees = trees;
            this.unit = unit;
            positions = trees.getSourcePositions();
            lines = unit.getLineMap();
        }

        private long line(Tree tree) {
            return lines.getLineNumber(positions.getStartPosition(unit, tree));
        }

        private String at(String rule, Tree tree) {
            return rule + " in line " + line(tree);
        }

        @Override
        public Void scan(Tree tree, Void none) {
            if (tree != null && LEFT_OUT.contains(tree.getKind())) {
                holds(at("2, 3 or 6: " + tree.getKind(), tree), false);
            }
            return super.scan(tree, none);
        }

        @Override
        public Void visitImport(ImportTree tree, Void none) {
            String imported = tree.getQualifiedIdentifier().toString();
            holds(at("4: import of " + imported, tree), imported.equals("java.util.NoSuchElementException"));
            return super.visitImport(tree, none);
        }

        @Override
        public Void visitClass(ClassTree tree, Void none) {
            classes.add(tree.getSimpleName().toString());
            boolean outermost = getCurrentPath().getParentPath().getLeaf() == unit;
            boolean isStatic = tree.getModifiers().getFlags().contains(Modifier.STATIC);
            holds(at("1 and 2: classes inside are static", tree), outermost || isStatic);
            int fields = 0;
            for (Tree member : tree.getMembers()) {
                holds(at("5: no initialiser block", member), member.getKind() != Tree.Kind.BLOCK);
                if (member instanceof VariableTree && !isStaticField((VariableTree) member)) {
                    fields++;
                }
            }
            holds(at("11: " + fields + " fields", tree), fields <= MOST_FIELDS);
            return super.visitClass(tree, none);
        }

        private static boolean isStaticField(VariableTree field) {
            return field.getModifiers().getFlags().contains(Modifier.STATIC);
        }

        @Override
        public Void visitMethod(MethodTree tree, Void none) {
            ExecutableElement method = (ExecutableElement) trees.getElement(getCurrentPath());
            calls.putIfAbsent(method, new HashSet<>());
            boolean written = positions.getEndPosition(unit, tree) >= 0 && method.getKind() == ElementKind.METHOD;
            if (written) {
                boolean isFace = method.getModifiers().contains(Modifier.PUBLIC);
                (isFace ? face : hidden).add(method.getSimpleName().toString());
                long length = lines.getLineNumber(positions.getEndPosition(unit, tree)) - line(tree) + 1;
                holds(at("11: " + length + " lines of " + method, tree), length <= MOST_LINES);
                holds(at("3: answer of " + method, tree), isAllowed(tree.getReturnType().toString()));
            }
            holds(at("11: parameters of " + method, tree), tree.getParameters().size() <= MOST_PARAMETERS);
            return super.visitMethod(tree, none);
        }

        @Override
        public Void visitVariable(VariableTree tree, Void none) {
            String type = tree.getType().toString();
            holds(at("3: type " + type, tree), isAllowed(type));
            if (isStaticField(tree)) {
                boolean isFinal = tree.getModifiers().getFlags().contains(Modifier.FINAL);
                holds(at("5: static " + tree.getName(), tree), isFinal && TYPES.contains(type.replace("[]", "")));
            }
            return super.visitVariable(tree, none);
        }

        private boolean isAllowed(String type) {
            String plain = type.endsWith("[]") ? type.substring(0, type.length() - 2) : type;
            return plain.equals("void") || TYPES.contains(plain) || isOwn(plain);
        }

        private boolean isOwn(String name) {
            for (Tree top : unit.getTypeDecls()) {
                for (Tree member : ((ClassTree) top).getMembers()) {
                    if (member instanceof ClassTree && ((ClassTree) member).getSimpleName().contentEquals(name)) {
                        return true;
                    }
                }
            }
            return false;
        }

        @Override
        public Void visitMethodInvocation(MethodInvocationTree tree, Void none) {
            Element called = trees.getElement(new TreePath(getCurrentPath(), tree.getMethodSelect()));
            ExecutableElement method = (ExecutableElement) called;
            ExecutableElement caller = callerHere();
            String owner = ((TypeElement) method.getEnclosingElement()).getSimpleName().toString();
            String name = method.getSimpleName().toString();
            boolean isOwn = owner.equals("TermShelf") || isOwn(owner);
            boolean isMaths = MATHS.contains(owner) && method.getModifiers().contains(Modifier.STATIC)
                && !name.endsWith("Exact");
            boolean isSuper = name.equals("<init>");
            holds(at("4: call of " + owner + "." + name, tree), isOwn || isMaths || isSuper);
            if (isOwn && caller != null) {
                calls.computeIfAbsent(caller, any -> new HashSet<>()).add(method);
            }
            return super.visitMethodInvocation(tree, none);
        }

        private ExecutableElement callerHere() {
            for (TreePath path = getCurrentPath(); path != null; path = path.getParentPath()) {
                if (path.getLeaf() instanceof MethodTree) {
                    return (ExecutableElement) trees.getElement(path);
                }
            }
            return null;
        }

        @Override
        public Void visitNewClass(NewClassTree tree, Void none) {
            boolean isThrown = getCurrentPath().getParentPath().getLeaf() instanceof ThrowTree;
            holds(at("12: calls make nothing: " + tree, tree), isThrown || !isInMethod());
            holds(at("2: no body of its own", tree), tree.getClassBody() == null);
            return super.visitNewClass(tree, none);
        }

        @Override
        public Void visitNewArray(NewArrayTree tree, Void none) {
            holds(at("12: calls make nothing: " + tree, tree), !isInMethod());
            return super.visitNewArray(tree, none);
        }

        /** A constructor is none, nor is what a field is set to at first. */
        private boolean isInMethod() {
            ExecutableElement maker = callerHere();
            return maker != null && maker.getKind() == ElementKind.METHOD;
        }

        @Override
        public Void visitThrow(ThrowTree tree, Void none) {
            holds(at("6: no throw in a constructor", tree), isInMethod());
            boolean isNew = tree.getExpression() instanceof NewClassTree;
            holds(at("6: throw new", tree), isNew);
            if (isNew) {
                NewClassTree made = (NewClassTree) tree.getExpression();
                holds(at("6: " + made, tree), THROWN.contains(made.getIdentifier().toString()) && isWritten(made));
            }
            return super.visitThrow(tree, none);
        }

        private static boolean isWritten(NewClassTree made) {
            List<? extends ExpressionTree> told = made.getArguments();
            return told.isEmpty() || told.size() == 1 && told.get(0).getKind() == Tree.Kind.STRING_LITERAL;
        }

        @Override
        public Void visitTypeCast(TypeCastTree tree, Void none) {
            holds(at("6: cast to " + tree.getType(), tree), TYPES.contains(tree.getType().toString()));
            return super.visitTypeCast(tree, none);
        }

        @Override
        public Void visitBinary(BinaryTree tree, Void none) {
            boolean isText = trees.getTypeMirror(getCurrentPath()).toString().endsWith("String");
            holds(at("10: texts are not joined by +", tree), !isText);
            return super.visitBinary(tree, none);
        }

        @Override
        public Void visitForLoop(ForLoopTree tree, Void none) {
            hasEnd(tree, tree.getCondition());
            return super.visitForLoop(tree, none);
        }

        @Override
        public Void visitWhileLoop(WhileLoopTree tree, Void none) {
            hasEnd(tree, tree.getCondition());
            return super.visitWhileLoop(tree, none);
        }

        @Override
        public Void visitDoWhileLoop(DoWhileLoopTree tree, Void none) {
            hasEnd(tree, tree.getCondition());
            return super.visitDoWhileLoop(tree, none);
        }

        private void hasEnd(Tree loop, ExpressionTree condition) {
            String written = condition == null ? "true" : condition.toString().replace("(", "").replace(")", "");
            boolean compares = written.contains("<") || written.contains(">");
            holds(at("9: an end that can be seen", loop), compares && !written.equals("true"));
        }

        private void lookAtAll() {
            holds("11: " + classes.size() + " classes", classes.size() <= MOST_CLASSES);
            Set<String> both = new TreeSet<>(face);
            both.retainAll(hidden);
            holds("1: named as the face: " + both, both.isEmpty());
            for (ExecutableElement method : calls.keySet()) {
                int depth = depthOf(method);
                holds("11: " + method + " goes " + depth + " deep", depth <= MOST_CALLS_DEEP);
            }
        }

        /** The class has no recursion; a method met again below itself is told here. */
        private int depthOf(ExecutableElement method) {
            Integer known = depths.get(method);
            if (known != null) {
                return known;
            }
            if (!open.add(method)) {
                holds("8: recursion of " + method, false);
                return MOST_CALLS_DEEP;
            }
            int deepest = 0;
            for (ExecutableElement called : calls.getOrDefault(method, Set.of())) {
                deepest = Math.max(deepest, depthOf(called));
            }
            open.remove(method);
            depths.put(method, deepest + 1);
            return deepest + 1;
        }
    }
}
