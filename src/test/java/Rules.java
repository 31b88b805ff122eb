import com.sun.source.tree.AssertTree;
import com.sun.source.tree.AssignmentTree;
import com.sun.source.tree.BinaryTree;
import com.sun.source.tree.BlockTree;
import com.sun.source.tree.ClassTree;
import com.sun.source.tree.CompilationUnitTree;
import com.sun.source.tree.CompoundAssignmentTree;
import com.sun.source.tree.ConditionalExpressionTree;
import com.sun.source.tree.DoWhileLoopTree;
import com.sun.source.tree.ExpressionStatementTree;
import com.sun.source.tree.ExpressionTree;
import com.sun.source.tree.ForLoopTree;
import com.sun.source.tree.IdentifierTree;
import com.sun.source.tree.LambdaExpressionTree;
import com.sun.source.tree.MemberReferenceTree;
import com.sun.source.tree.MemberSelectTree;
import com.sun.source.tree.MethodInvocationTree;
import com.sun.source.tree.MethodTree;
import com.sun.source.tree.NewArrayTree;
import com.sun.source.tree.NewClassTree;
import com.sun.source.tree.StatementTree;
import com.sun.source.tree.SynchronizedTree;
import com.sun.source.tree.ThrowTree;
import com.sun.source.tree.Tree;
import com.sun.source.tree.TryTree;
import com.sun.source.tree.TypeCastTree;
import com.sun.source.tree.UnaryTree;
import com.sun.source.tree.VariableTree;
import com.sun.source.tree.WhileLoopTree;
import com.sun.source.util.JavacTask;
import com.sun.source.util.TreePath;
import com.sun.source.util.TreePathScanner;
import com.sun.source.util.TreeScanner;
import com.sun.source.util.Trees;
import java.io.IOException;
import java.net.URI;
import java.util.ArrayList;
import java.util.LinkedHashMap;
import java.util.LinkedHashSet;
import java.util.List;
import java.util.Map;
import java.util.Set;
import java.util.regex.Pattern;
import javax.lang.model.element.Element;
import javax.lang.model.element.ElementKind;
import javax.lang.model.element.Modifier;
import javax.lang.model.element.VariableElement;
import javax.lang.model.type.ArrayType;
import javax.lang.model.type.DeclaredType;
import javax.lang.model.type.TypeKind;
import javax.lang.model.type.TypeMirror;
import javax.tools.Diagnostic;
import javax.tools.DiagnosticCollector;
import javax.tools.JavaFileObject;
import javax.tools.SimpleJavaFileObject;
import javax.tools.ToolProvider;

/**
 * Reads a class as the compiler does and tells what LANGUAGE.md does not allow in it. Some of what the rules allow with
 * care (lists, recursion, casts of objects, objects made by a call) FixedFacts does not need: that is told as well.
 */
final class Rules extends TreePathScanner<Void, Void> {
    private static final int MOST_PARAMETERS = 7, MOST_LINES = 60, MOST_DEEP = 8, MOST_CLASSES = 12, MOST_FIELDS = 20;
    private static final Set<String> LIBRARY = Set.of("java.lang.System.arraycopy", "java.lang.Math.max", "java.lang.Math.min",
            "java.lang.Math.abs", "java.lang.Math.floorMod", "java.lang.Math.floorDiv", "java.lang.Integer.bitCount");

    private final Trees trees;
    private final CompilationUnitTree unit;
    private final List<String> broken = new ArrayList<>();
    private final Map<Element, Set<Element>> calls = new LinkedHashMap<>();
    private final Set<Element> face = new LinkedHashSet<>();
    private int classes = 0;

    private Rules(Trees trees, CompilationUnitTree unit) {
        this.trees = trees;
        this.unit = unit;
    }

    /** What is broken, each beginning with "rule" and its number. */
    static List<String> brokenBy(String text) throws IOException {
        JavaFileObject file = new SimpleJavaFileObject(URI.create("string:///FixedFacts.java"), JavaFileObject.Kind.SOURCE) {
            @Override
            public CharSequence getCharContent(boolean ignored) {
                return text;
            }
        };
        DiagnosticCollector<JavaFileObject> told = new DiagnosticCollector<>();
        JavacTask task = (JavacTask) ToolProvider.getSystemJavaCompiler()
                .getTask(null, null, told, List.of("-proc:none"), null, List.of(file));
        CompilationUnitTree unit = task.parse().iterator().next();
        task.analyze();
        for (Diagnostic<?> one : told.getDiagnostics()) {
            if (one.getKind() == Diagnostic.Kind.ERROR) {
                throw new IllegalArgumentException(one.toString());
            }
        }
        Rules rules = new Rules(Trees.instance(task), unit);
        rules.scan(unit, null);
        rules.lookAtSigns(text);
        rules.lookAtDepth();
        return rules.broken;
    }

    private void tell(int rule, String what, Tree where) {
        long at = trees.getSourcePositions().getStartPosition(unit, where);
        broken.add("rule " + rule + ": " + what + ", line " + (at < 0 ? 0 : unit.getLineMap().getLineNumber(at)));
    }

    private void lookAtSigns(String text) {
        if (!text.chars().allMatch(sign -> sign < 128)) {
            broken.add("rule 4: a sign above 127");
        }
    }

    // ---- classes and their members

    @Override
    public Void visitCompilationUnit(CompilationUnitTree tree, Void none) {
        if (tree.getPackageName() != null) {
            tell(1, "a package line", tree);
        }
        if (!tree.getImports().isEmpty()) {
            tell(4, "an import", tree.getImports().get(0));
        }
        if (tree.getTypeDecls().size() != 1) {
            tell(1, "more than one class that stands by itself", tree);
        }
        super.visitCompilationUnit(tree, none);
        if (classes > MOST_CLASSES) {
            tell(11, "too many classes", tree);
        }
        return null;
    }

    @Override
    public Void visitClass(ClassTree tree, Void none) {
        classes++;
        Set<Modifier> modifiers = tree.getModifiers().getFlags();
        Tree around = getCurrentPath().getParentPath().getLeaf();
        if (around instanceof ClassTree) {
            if (!modifiers.contains(Modifier.STATIC)) {
                tell(2, "a class inside that is not static", tree);
            }
            if (modifiers.contains(Modifier.PUBLIC) || modifiers.contains(Modifier.PROTECTED)) {
                tell(1, "a class inside that is to be seen", tree);
            }
        } else if (!(around instanceof CompilationUnitTree)) {
            tell(2, "a class inside a method", tree);
        }
        int fields = 0;
        for (Tree member : tree.getMembers()) {
            if (member instanceof BlockTree) {
                tell(5, "a block that begins a class or an object", member);
            }
            if (member instanceof VariableTree field) {
                fields += lookAtField(field) ? 0 : 1;
            }
            if (around instanceof CompilationUnitTree) {
                lookAtSight(member);
            }
        }
        if (fields > MOST_FIELDS) {
            tell(11, "too many fields", tree);
        }
        return super.visitClass(tree, none);
    }

    /** Whether it belongs to the class. */
    private boolean lookAtField(VariableTree field) {
        Set<Modifier> modifiers = field.getModifiers().getFlags();
        if (!modifiers.contains(Modifier.STATIC)) {
            return false;
        }
        Tree type = field.getType();
        String name = type.toString();
        boolean isConstant = Set.of("int", "long", "boolean", "char", "String").contains(name);
        boolean isRow = Set.of("int[]", "long[]", "char[]", "byte[]").contains(name)
                && field.getInitializer() instanceof NewArrayTree row && row.getInitializers() != null;
        if (!modifiers.contains(Modifier.FINAL) || !isConstant && !isRow) {
            tell(5, "a static field that is no constant: " + field.getName(), field);
        }
        return true;
    }

    private void lookAtSight(Tree member) {
        Set<Modifier> modifiers = member instanceof VariableTree field ? field.getModifiers().getFlags()
                : member instanceof MethodTree method ? method.getModifiers().getFlags() : Set.of(Modifier.PRIVATE);
        if (!modifiers.contains(Modifier.PUBLIC) && !modifiers.contains(Modifier.PRIVATE)) {
            tell(1, "a member that is neither public nor private", member);
        }
    }

    @Override
    public Void visitMethod(MethodTree tree, Void none) {
        Element method = trees.getElement(getCurrentPath());
        boolean isOfFace = getCurrentPath().getParentPath().getParentPath().getLeaf() instanceof CompilationUnitTree
                && tree.getModifiers().getFlags().contains(Modifier.PUBLIC);
        if (isOfFace) {
            face.add(method);
        }
        if (tree.getModifiers().getFlags().contains(Modifier.SYNCHRONIZED) || !tree.getThrows().isEmpty()) {
            tell(6, "a method that is synchronized or throws", tree);
        }
        if (tree.getParameters().size() > MOST_PARAMETERS) {
            tell(11, "too many parameters: " + tree.getName(), tree);
        }
        long begin = trees.getSourcePositions().getStartPosition(unit, tree);
        long end = trees.getSourcePositions().getEndPosition(unit, tree);
        if (end >= 0 && unit.getLineMap().getLineNumber(end) - unit.getLineMap().getLineNumber(begin) >= MOST_LINES) {
            tell(11, "too long: " + tree.getName(), tree);
        }
        if (tree.getReturnType() != null) {
            lookAtType(trees.getTypeMirror(new TreePath(getCurrentPath(), tree.getReturnType())), tree);
        }
        return super.visitMethod(tree, none);
    }

    @Override
    public Void visitVariable(VariableTree tree, Void none) {
        lookAtType(trees.getElement(getCurrentPath()).asType(), tree);
        return super.visitVariable(tree, none);
    }

    private void lookAtType(TypeMirror type, Tree where) {
        int deep = 0;
        TypeMirror inner = type;
        while (inner instanceof ArrayType row) {
            inner = row.getComponentType();
            deep++;
        }
        boolean isOwn = inner.getKind() == TypeKind.DECLARED && isOwn(((DeclaredType) inner).asElement());
        boolean isNumber = inner.getKind().isPrimitive() && inner.getKind() != TypeKind.DOUBLE && inner.getKind() != TypeKind.FLOAT;
        boolean isText = inner.toString().equals("java.lang.String");
        boolean fits = isNumber && deep <= 2 || isOwn && deep <= 1 || isText && deep == 0 || inner.getKind() == TypeKind.VOID;
        if (!fits) {
            tell(3, "a type that is not allowed: " + type, where);
        }
    }

    private boolean isOwn(Element element) {
        return trees.getTree(element) != null;
    }

    // ---- what no method may do

    @Override
    public Void visitLambdaExpression(LambdaExpressionTree tree, Void none) {
        tell(2, "a lambda", tree);
        return super.visitLambdaExpression(tree, none);
    }

    @Override
    public Void visitMemberReference(MemberReferenceTree tree, Void none) {
        tell(2, "a method reference", tree);
        return super.visitMemberReference(tree, none);
    }

    @Override
    public Void visitThrow(ThrowTree tree, Void none) {
        tell(6, "throw", tree);
        return super.visitThrow(tree, none);
    }

    @Override
    public Void visitTry(TryTree tree, Void none) {
        tell(6, "try", tree);
        return super.visitTry(tree, none);
    }

    @Override
    public Void visitSynchronized(SynchronizedTree tree, Void none) {
        tell(6, "synchronized", tree);
        return super.visitSynchronized(tree, none);
    }

    @Override
    public Void visitAssert(AssertTree tree, Void none) {
        tell(6, "assert", tree);
        return super.visitAssert(tree, none);
    }

    @Override
    public Void visitTypeCast(TypeCastTree tree, Void none) {
        if (!typeOf(tree).getKind().isPrimitive()) {
            tell(6, "a cast of an object", tree);
        }
        return super.visitTypeCast(tree, none);
    }

    private TypeMirror typeOf(ExpressionTree tree) {
        return trees.getTypeMirror(TreePath.getPath(unit, tree));
    }

    // ---- what is made, what is called

    @Override
    public Void visitNewClass(NewClassTree tree, Void none) {
        Element made = trees.getElement(getCurrentPath());
        if (made == null || !isOwn(made.getEnclosingElement())) {
            tell(4, "an object of the library", tree);
        }
        lookWhereItIsMade(tree);
        note(made);
        return super.visitNewClass(tree, none);
    }

    @Override
    public Void visitNewArray(NewArrayTree tree, Void none) {
        lookWhereItIsMade(tree);
        return super.visitNewArray(tree, none);
    }

    /** FixedFacts makes all that it needs with the object: no call fills the room. */
    private void lookWhereItIsMade(Tree tree) {
        MethodTree method = around();
        if (method != null && method.getReturnType() != null) {
            tell(12, "a call that makes something", tree);
        }
    }

    /** The method that is being looked at; null in the first value of a field. */
    private MethodTree around() {
        for (TreePath path = getCurrentPath(); path != null; path = path.getParentPath()) {
            if (path.getLeaf() instanceof MethodTree method) {
                return method;
            }
        }
        return null;
    }

    @Override
    public Void visitMethodInvocation(MethodInvocationTree tree, Void none) {
        Element called = trees.getElement(getCurrentPath());
        boolean isFirstLineOfAnObject = called.getKind() == ElementKind.CONSTRUCTOR;
        if (isOwn(called)) {
            note(called);
        } else if (!isFirstLineOfAnObject && !LIBRARY.contains(called.getEnclosingElement() + "." + called.getSimpleName())) {
            tell(4, "a call of the library: " + called, tree);
        }
        return super.visitMethodInvocation(tree, none);
    }

    @Override
    public Void visitMemberSelect(MemberSelectTree tree, Void none) {
        Element element = trees.getElement(getCurrentPath());
        boolean isLength = tree.getIdentifier().contentEquals("length");
        if (element instanceof VariableElement && !isOwn(element) && !isLength) {
            tell(4, "a field of the library: " + tree, tree);
        }
        return super.visitMemberSelect(tree, none);
    }

    private void note(Element called) {
        MethodTree method = around();
        if (method != null && called != null) {
            Element caller = trees.getElement(TreePath.getPath(unit, method));
            calls.computeIfAbsent(caller, ignored -> new LinkedHashSet<>()).add(called);
        }
    }

    private void lookAtDepth() {
        for (Element method : calls.keySet()) {
            if (deepest(method, new ArrayList<>()) < 0) {
                broken.add("rule 8: a method that comes to call itself: " + method);
            }
        }
        for (Element method : face) {
            if (deepest(method, new ArrayList<>()) > MOST_DEEP) {
                broken.add("rule 11: calls that go too deep: " + method);
            }
        }
    }

    /** How many calls stand open at once, with this one; below 0: it comes round to one that is open. */
    private int deepest(Element method, List<Element> open) {
        if (open.contains(method)) {
            return -1;
        }
        open.add(method);
        int most = 1;
        for (Element called : calls.getOrDefault(method, Set.of())) {
            int deep = deepest(called, open);
            most = deep < 0 || most < 0 ? -1 : Math.max(most, deep + 1);
        }
        open.remove(method);
        return most;
    }

    // ---- sums and comparisons

    @Override
    public Void visitBinary(BinaryTree tree, Void none) {
        switch (tree.getKind()) {
            case DIVIDE, REMAINDER -> lookAtDivisor(tree.getRightOperand(), tree);
            case EQUAL_TO, NOT_EQUAL_TO -> {
                if (isText(tree.getLeftOperand()) && isText(tree.getRightOperand())) {
                    tell(6, "texts or Integers compared by what they are", tree);
                }
            }
            case PLUS -> {
                if (typeOf(tree).toString().equals("java.lang.String")) {
                    tell(10, "texts joined by +", tree);
                }
            }
            default -> {
            }
        }
        return super.visitBinary(tree, none);
    }

    private boolean isText(ExpressionTree tree) {
        return Set.of("java.lang.String", "java.lang.Integer").contains(typeOf(tree).toString());
    }

    @Override
    public Void visitCompoundAssignment(CompoundAssignmentTree tree, Void none) {
        if (tree.getKind() == Tree.Kind.DIVIDE_ASSIGNMENT || tree.getKind() == Tree.Kind.REMAINDER_ASSIGNMENT) {
            lookAtDivisor(tree.getExpression(), tree);
        }
        return super.visitCompoundAssignment(tree, none);
    }

    /** A divisor is a constant, or a name that the ?: around it has looked at. */
    private void lookAtDivisor(ExpressionTree divisor, Tree where) {
        if (isConstant(divisor)) {
            return;
        }
        Tree inner = where;
        for (TreePath path = TreePath.getPath(unit, where); path != null; path = path.getParentPath()) {
            if (path.getLeaf() instanceof ConditionalExpressionTree choice && choice.getTrueExpression() == inner
                    && choice.getCondition().toString().contains(divisor + " > 0")) {
                return;
            }
            inner = path.getLeaf();
        }
        tell(7, "a divisor that is not looked at: " + divisor, where);
    }

    private boolean isConstant(ExpressionTree tree) {
        Element element = trees.getElement(TreePath.getPath(unit, tree));
        boolean isNamed = element instanceof VariableElement name && name.getConstantValue() != null;
        boolean isWritten = tree.getKind() == Tree.Kind.INT_LITERAL || tree.getKind() == Tree.Kind.LONG_LITERAL;
        return isNamed || isWritten && !tree.toString().matches("0[lL]?");
    }

    // ---- loops: a counter that the loop's own lines move towards a bound, and nothing else moves

    @Override
    public Void visitForLoop(ForLoopTree tree, Void none) {
        boolean ends = false;
        for (ExpressionStatementTree update : tree.getUpdate()) {
            String counter = counterOf(update);
            ends |= counter != null && tree.getCondition() != null && isBounded(tree.getCondition(), counter)
                    && changesOf(counter, tree.getStatement()) == 0;
        }
        if (!ends) {
            tell(9, "a loop whose end cannot be seen", tree);
        }
        return super.visitForLoop(tree, none);
    }

    @Override
    public Void visitWhileLoop(WhileLoopTree tree, Void none) {
        lookAtWhile(tree.getCondition(), tree.getStatement(), tree);
        return super.visitWhileLoop(tree, none);
    }

    @Override
    public Void visitDoWhileLoop(DoWhileLoopTree tree, Void none) {
        lookAtWhile(tree.getCondition(), tree.getStatement(), tree);
        return super.visitDoWhileLoop(tree, none);
    }

    private void lookAtWhile(ExpressionTree condition, StatementTree body, Tree loop) {
        boolean ends = false;
        if (body instanceof BlockTree block) {
            for (StatementTree line : block.getStatements()) {
                String counter = line instanceof ExpressionStatementTree update ? counterOf(update) : null;
                ends |= counter != null && isBounded(condition, counter) && changesOf(counter, body) == 1;
            }
        }
        if (!ends) {
            tell(9, "a loop whose end cannot be seen", loop);
        }
    }

    /** The name that a line counts up or down by one; null: it does not. */
    private static String counterOf(ExpressionStatementTree line) {
        return line.getExpression() instanceof UnaryTree step && step.getExpression() instanceof IdentifierTree name
                ? name.getName().toString() : null;
    }

    private static boolean isBounded(ExpressionTree condition, String counter) {
        String one = "(^|[( ])" + counter + " (<|<=|>|>=) ";
        return !condition.toString().contains("||") && Pattern.compile(one).matcher(condition.toString()).find();
    }

    private static int changesOf(String counter, Tree body) {
        int[] changes = {0};
        new TreeScanner<Void, Void>() {
            private void look(ExpressionTree changed) {
                changes[0] += changed.toString().equals(counter) ? 1 : 0;
            }

            @Override
            public Void visitAssignment(AssignmentTree tree, Void none) {
                look(tree.getVariable());
                return super.visitAssignment(tree, none);
            }

            @Override
            public Void visitCompoundAssignment(CompoundAssignmentTree tree, Void none) {
                look(tree.getVariable());
                return super.visitCompoundAssignment(tree, none);
            }

            @Override
            public Void visitUnary(UnaryTree tree, Void none) {
                boolean steps = tree.getKind().toString().endsWith("CREMENT");
                if (steps) {
                    look(tree.getExpression());
                }
                return super.visitUnary(tree, none);
            }
        }.scan(body, null);
        return changes[0];
    }
}
