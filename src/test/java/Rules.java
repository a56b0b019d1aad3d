import com.sun.source.tree.AssertTree;
import com.sun.source.tree.AssignmentTree;
import com.sun.source.tree.ArrayAccessTree;
import com.sun.source.tree.BinaryTree;
import com.sun.source.tree.BlockTree;
import com.sun.source.tree.ClassTree;
import com.sun.source.tree.CompilationUnitTree;
import com.sun.source.tree.CompoundAssignmentTree;
import com.sun.source.tree.DoWhileLoopTree;
import com.sun.source.tree.ExpressionTree;
import com.sun.source.tree.ForLoopTree;
import com.sun.source.tree.IdentifierTree;
import com.sun.source.tree.InstanceOfTree;
import com.sun.source.tree.LambdaExpressionTree;
import com.sun.source.tree.LiteralTree;
import com.sun.source.tree.MemberReferenceTree;
import com.sun.source.tree.MemberSelectTree;
import com.sun.source.tree.MethodInvocationTree;
import com.sun.source.tree.MethodTree;
import com.sun.source.tree.NewArrayTree;
import com.sun.source.tree.NewClassTree;
import com.sun.source.tree.StatementTree;
import com.sun.source.tree.SynchronizedTree;
import com.sun.source.tree.ThrowTree;
import com.sun.source.tree.Tree;
import com.sun.source.tree.TryTree;
import com.sun.source.tree.TypeCastTree;
import com.sun.source.tree.UnaryTree;
import com.sun.source.tree.VariableTree;
import com.sun.source.tree.WhileLoopTree;
import com.sun.source.util.JavacTask;
import com.sun.source.util.SourcePositions;
import com.sun.source.util.TreePath;
import com.sun.source.util.TreePathScanner;
import com.sun.source.util.TreeScanner;
import com.sun.source.util.Trees;
import java.io.IOException;
import java.util.ArrayList;
import java.util.HashSet;
import java.util.LinkedHashMap;
import java.util.List;
import java.util.Map;
import java.util.Set;
import javax.lang.model.element.Element;
import javax.lang.model.element.ElementKind;
import javax.lang.model.element.ExecutableElement;
import javax.lang.model.element.Modifier;
import javax.lang.model.element.TypeElement;
import javax.lang.model.type.ArrayType;
import javax.lang.model.type.DeclaredType;
import javax.lang.model.type.TypeKind;
import javax.lang.model.type.TypeMirror;
import javax.tools.JavaFileObject;
import javax.tools.ToolProvider;

/**
 * LANGUAGE.md as far as a source tells it, by the trees that javac itself makes of it. It is narrower than the
 * document: what the class has no use for (lists, texts, catching, casts, recursion) is complained about, too.
 */
final class Rules extends TreePathScanner<Void, Void> {
    private static final Set<String> LIBRARY = Set.of("java.util.Arrays.fill", "java.lang.Math.min", "java.lang.Math.max",
        "java.lang.Integer.bitCount", "java.lang.System.arraycopy");
    private static final Set<String> THROWN = Set.of("java.lang.IllegalStateException", "java.lang.IllegalArgumentException",
        "java.lang.IndexOutOfBoundsException", "java.lang.ArithmeticException", "java.lang.UnsupportedOperationException",
        "java.util.NoSuchElementException", "java.lang.RuntimeException");
    private static final Set<String> OBJECTS_OWN = Set.of("equals", "hashCode", "toString");
    private static final Set<TypeKind> NUMBERS = Set.of(TypeKind.INT, TypeKind.LONG, TypeKind.SHORT, TypeKind.BYTE, TypeKind.CHAR);
    private static final Set<Tree.Kind> BOUNDS = Set.of(Tree.Kind.LESS_THAN, Tree.Kind.LESS_THAN_EQUAL,
        Tree.Kind.GREATER_THAN, Tree.Kind.GREATER_THAN_EQUAL);
    private static final int MOST_PARAMETERS = 7;
    private static final int MOST_LINES = 60;
    private static final int MOST_CLASSES = 12;
    private static final int MOST_FIELDS = 20;
    private static final int MOST_DEEP = 8;

    private final CompilationUnitTree unit;
    private final Trees trees;
    private final List<String> found = new ArrayList<>();
    private final Map<ExecutableElement, Set<ExecutableElement>> calls = new LinkedHashMap<>();
    private final Map<ExecutableElement, Integer> depths = new LinkedHashMap<>();
    private final Set<ExecutableElement> open = new HashSet<>();
    private final Set<String> told = new HashSet<>();
    private int classes;

    private Rules(CompilationUnitTree unit, Trees trees) {
        this.unit = unit;
        this.trees = trees;
    }

    /** What breaks a rule, each with the rule's number and the line. */
    static List<String> complaints(JavaFileObject file, String source) throws IOException {
        List<String> options = List.of("-proc:none", "-Xlint:none");
        JavacTask task = (JavacTask) ToolProvider.getSystemJavaCompiler().getTask(null, null, d -> { }, options, null,
            List.of(file));
        CompilationUnitTree unit = task.parse().iterator().next();
        task.analyze();
        Rules rules = new Rules(unit, Trees.instance(task));
        rules.signs(source);
        rules.unit();
        rules.scan(unit, null);
        rules.depths();
        return rules.found;
    }

    private void wrong(int rule, Tree at, String what) {
        long place = trees.getSourcePositions().getStartPosition(unit, at);
        found.add("rule " + rule + ": line " + (place < 0 ? 0 : unit.getLineMap().getLineNumber(place)) + ": " + what);
    }

    private void signs(String source) {
        for (int k = 0; k < source.length(); k++) {
            if (source.charAt(k) < 1 || source.charAt(k) > 127) {
                wrong(3, unit, "the sign " + (int) source.charAt(k));
            }
        }
    }

    // Rule 1
    private void unit() {
        if (unit.getPackage() != null) {
            wrong(1, unit, "a package line");
        }
        if (unit.getTypeDecls().size() != 1) {
            wrong(1, unit, "more than one class");
        }
        for (Tree tree : unit.getTypeDecls()) {
            Set<Modifier> flags = ((ClassTree) tree).getModifiers().getFlags();
            if (!flags.contains(Modifier.PUBLIC) || !flags.contains(Modifier.FINAL)) {
                wrong(1, tree, "not public and final");
            }
            for (Tree member : ((ClassTree) tree).getMembers()) {
                if (member instanceof MethodTree && ((MethodTree) member).getModifiers().getFlags().contains(Modifier.PUBLIC)) {
                    told.add(((MethodTree) member).getName().toString());
                }
            }
        }
    }

    private Element element(Tree tree) {
        return trees.getElement(new TreePath(getCurrentPath(), tree));
    }

    private TypeMirror type(Tree tree) {
        return trees.getTypeMirror(new TreePath(getCurrentPath(), tree));
    }

    private Element here() {
        return trees.getElement(getCurrentPath());
    }

    private ExecutableElement method() {
        for (TreePath path = getCurrentPath(); path != null; path = path.getParentPath()) {
            if (path.getLeaf() instanceof MethodTree) {
                return (ExecutableElement) trees.getElement(path);
            }
        }
        return null;
    }

    private static boolean isOwn(Element element) {
        Element outer = element;
        while (outer != null && outer.getEnclosingElement() != null && outer.getEnclosingElement().getKind() != ElementKind.PACKAGE) {
            outer = outer.getEnclosingElement();
        }
        return outer != null && outer.getSimpleName().contentEquals("SuiteBench");
    }

    private static boolean isOuter(Element element) {
        return element.getEnclosingElement() == null || element.getEnclosingElement().getKind() == ElementKind.PACKAGE;
    }

    // Rules 1, 2, 6, 11
    @Override
    public Void visitClass(ClassTree tree, Void none) {
        classes++;
        if (classes == MOST_CLASSES + 1) {
            wrong(11, tree, "a thirteenth class");
        }
        Element element = here();
        Set<Modifier> flags = tree.getModifiers().getFlags();
        if (!(getCurrentPath().getParentPath().getLeaf() instanceof CompilationUnitTree)) {
            if (!(getCurrentPath().getParentPath().getLeaf() instanceof ClassTree)) {
                wrong(2, tree, "a class inside a method");
            } else if (flags.contains(Modifier.PUBLIC) || flags.contains(Modifier.PROTECTED)
                || !element.getModifiers().contains(Modifier.STATIC)) {
                wrong(1, tree, "a class inside that isn't static and hidden");
            }
        }
        if (tree.getExtendsClause() != null) {
            wrong(6, tree, "extends another class");
        }
        int fields = 0;
        for (Tree member : tree.getMembers()) {
            if (member instanceof VariableTree) {
                boolean constant = ((VariableTree) member).getModifiers().getFlags().contains(Modifier.STATIC);
                fields += constant ? 0 : 1;
            } else if (member instanceof BlockTree) {
                wrong(5, member, "a block outside of methods");
            }
        }
        if (fields > MOST_FIELDS) {
            wrong(11, tree, fields + " fields");
        }
        return super.visitClass(tree, none);
    }

    // Rules 1, 3, 6, 11
    @Override
    public Void visitMethod(MethodTree tree, Void none) {
        ExecutableElement element = (ExecutableElement) here();
        calls.putIfAbsent(element, new HashSet<>());
        Set<Modifier> flags = tree.getModifiers().getFlags();
        boolean outer = isOuter(element.getEnclosingElement());
        boolean made = element.getKind() == ElementKind.CONSTRUCTOR;
        if (outer && !flags.contains(Modifier.PUBLIC) && !flags.contains(Modifier.PRIVATE)) {
            wrong(1, tree, tree.getName() + " is neither public nor private");
        }
        if (!made && !(outer && flags.contains(Modifier.PUBLIC)) && told.contains(tree.getName().toString())) {
            wrong(1, tree, tree.getName() + " bears the name of a public one");
        }
        if (OBJECTS_OWN.contains(tree.getName().toString())) {
            wrong(6, tree, tree.getName() + " of an object of one's own");
        }
        if (!made && tree.getReturnType() != null) {
            checkType(tree, element.getReturnType());
        }
        if (tree.getParameters().size() > MOST_PARAMETERS) {
            wrong(11, tree, tree.getParameters().size() + " parameters");
        }
        if (isWritten(tree) && lines(tree) > MOST_LINES) {
            wrong(11, tree, tree.getName() + " has " + lines(tree) + " lines");
        }
        return super.visitMethod(tree, none);
    }

    /** A constructor that javac adds by itself has no end. */
    private boolean isWritten(MethodTree tree) {
        SourcePositions places = trees.getSourcePositions();
        return tree.getBody() != null && places.getEndPosition(unit, tree) > places.getStartPosition(unit, tree.getBody());
    }

    private long lines(Tree tree) {
        long from = trees.getSourcePositions().getStartPosition(unit, tree);
        long to = trees.getSourcePositions().getEndPosition(unit, tree);
        return unit.getLineMap().getLineNumber(to) - unit.getLineMap().getLineNumber(from) + 1;
    }

    // Rules 1, 3, 5
    @Override
    public Void visitVariable(VariableTree tree, Void none) {
        Element element = here();
        Set<Modifier> flags = tree.getModifiers().getFlags();
        checkType(tree, element.asType());
        if (element.getKind() == ElementKind.FIELD) {
            boolean constant = flags.contains(Modifier.STATIC) && flags.contains(Modifier.FINAL);
            if (isOuter(element.getEnclosingElement()) && !flags.contains(Modifier.PRIVATE)
                && !(constant && flags.contains(Modifier.PUBLIC))) {
                wrong(1, tree, tree.getName() + " is open");
            }
            if (flags.contains(Modifier.STATIC)) {
                checkConstant(tree, element.asType());
            }
        }
        return super.visitVariable(tree, none);
    }

    private void checkConstant(VariableTree tree, TypeMirror type) {
        if (!tree.getModifiers().getFlags().contains(Modifier.FINAL)) {
            wrong(5, tree, tree.getName() + " is static and not final");
        }
        TypeMirror part = type.getKind() == TypeKind.ARRAY ? ((ArrayType) type).getComponentType() : type;
        boolean row = type.getKind() == TypeKind.ARRAY;
        boolean fits = part.getKind() == TypeKind.INT || part.getKind() == TypeKind.LONG || part.getKind() == TypeKind.CHAR
            || part.getKind() == TypeKind.BYTE && row || !row && (part.getKind() == TypeKind.BOOLEAN || isText(part));
        if (!fits) {
            wrong(5, tree, "a constant of " + type);
        }
        if (row) {
            boolean out = tree.getInitializer() instanceof NewArrayTree
                && ((NewArrayTree) tree.getInitializer()).getInitializers() != null && isWrittenOut(tree.getInitializer());
            if (!out) {
                wrong(5, tree, tree.getName() + " isn't written out");
            }
        }
    }

    private static boolean isWrittenOut(Tree tree) {
        boolean[] out = {true};
        new TreeScanner<Void, Void>() {
            @Override
            public Void visitMethodInvocation(MethodInvocationTree call, Void none) {
                out[0] = false;
                return null;
            }
        }.scan(tree, null);
        return out[0];
    }

    private static boolean isText(TypeMirror type) {
        return type.toString().equals("java.lang.String");
    }

    // Rule 3
    private void checkType(Tree at, TypeMirror type) {
        int dimensions = 0;
        TypeMirror part = type;
        while (part.getKind() == TypeKind.ARRAY) {
            part = ((ArrayType) part).getComponentType();
            dimensions++;
        }
        boolean number = NUMBERS.contains(part.getKind()) || part.getKind() == TypeKind.BOOLEAN;
        boolean own = part.getKind() == TypeKind.DECLARED && (isOwn(((DeclaredType) part).asElement()) || isText(part));
        boolean fits = number && dimensions <= 2 || own && dimensions <= 1 || part.getKind() == TypeKind.VOID;
        if (!fits) {
            wrong(3, at, "a " + type);
        }
    }

    // Rules 4, 8, 12, 13
    @Override
    public Void visitMethodInvocation(MethodInvocationTree tree, Void none) {
        Element element = element(tree.getMethodSelect());
        ExecutableElement from = method();
        if (!(element instanceof ExecutableElement)) {
            wrong(4, tree, "a call of what isn't known");
            return super.visitMethodInvocation(tree, none);
        }
        String name = element.getEnclosingElement() + "." + element.getSimpleName();
        if (isOwn(element)) {
            noteCall(tree, from, (ExecutableElement) element);
        } else if (!LIBRARY.contains(name) && !name.equals("java.lang.Object.<init>")) {
            wrong(4, tree, "a call of " + name);
        } else if (name.equals("java.util.Arrays.fill") && !isRowOfNumbers(type(tree.getArguments().get(0)))) {
            wrong(4, tree, "fill over " + type(tree.getArguments().get(0)));
        }
        checkHandedOut(tree.getArguments());
        return super.visitMethodInvocation(tree, none);
    }

    private static boolean isRowOfNumbers(TypeMirror type) {
        return type.getKind() == TypeKind.ARRAY && NUMBERS.contains(((ArrayType) type).getComponentType().getKind());
    }

    private void noteCall(Tree tree, ExecutableElement from, ExecutableElement to) {
        if (from == null) {
            return;
        }
        calls.computeIfAbsent(from, key -> new HashSet<>()).add(to);
        boolean fixed = to.getModifiers().contains(Modifier.PRIVATE) || to.getModifiers().contains(Modifier.STATIC)
            || to.getModifiers().contains(Modifier.FINAL) || to.getKind() == ElementKind.CONSTRUCTOR
            || to.getEnclosingElement().getModifiers().contains(Modifier.FINAL);
        if (from.getKind() == ElementKind.CONSTRUCTOR && !fixed) {
            wrong(12, tree, "a constructor calls " + to + ", which could be overridden");
        }
    }

    private void checkHandedOut(List<? extends ExpressionTree> given) {
        ExecutableElement from = method();
        for (ExpressionTree argument : given) {
            boolean self = argument instanceof IdentifierTree && ((IdentifierTree) argument).getName().contentEquals("this");
            if (self && (from == null || from.getKind() == ElementKind.CONSTRUCTOR)) {
                wrong(12, argument, "a constructor hands out its object");
            }
        }
    }

    // Rules 4, 6, 12
    @Override
    public Void visitNewClass(NewClassTree tree, Void none) {
        Element element = here();
        Element of = element == null ? null : element.getEnclosingElement();
        boolean thrown = getCurrentPath().getParentPath().getLeaf() instanceof ThrowTree;
        if (tree.getClassBody() != null) {
            wrong(2, tree, "a class without a name");
        }
        if (of == null || !thrown && !isOwn(of)) {
            wrong(4, tree, "an object of " + of);
        } else if (!thrown) {
            noteCall(tree, method(), (ExecutableElement) element);
            checkMaking(tree);
        }
        checkHandedOut(tree.getArguments());
        return super.visitNewClass(tree, none);
    }

    @Override
    public Void visitNewArray(NewArrayTree tree, Void none) {
        checkMaking(tree);
        return super.visitNewArray(tree, none);
    }

    /** Narrower than the rule: rows and objects are made with the bench, and never again. */
    private void checkMaking(Tree tree) {
        ExecutableElement from = method();
        if (from != null && from.getKind() != ElementKind.CONSTRUCTOR) {
            wrong(12, tree, from.getSimpleName() + " makes an object");
        }
    }

    // Rule 5
    private void checkChange(ExpressionTree target) {
        ExpressionTree row = target;
        while (row instanceof ArrayAccessTree) {
            row = ((ArrayAccessTree) row).getExpression();
        }
        if (row != target) {
            Element element = element(row);
            if (element != null && element.getModifiers().contains(Modifier.STATIC)) {
                wrong(5, target, element.getSimpleName() + " is changed");
            }
        }
    }

    @Override
    public Void visitAssignment(AssignmentTree tree, Void none) {
        checkChange(tree.getVariable());
        return super.visitAssignment(tree, none);
    }

    @Override
    public Void visitCompoundAssignment(CompoundAssignmentTree tree, Void none) {
        checkChange(tree.getVariable());
        if (isText(type(tree.getVariable()))) {
            wrong(10, tree, "texts joined by +=");
        }
        return super.visitCompoundAssignment(tree, none);
    }

    @Override
    public Void visitUnary(UnaryTree tree, Void none) {
        if (tree.getKind() != Tree.Kind.UNARY_MINUS && tree.getKind() != Tree.Kind.BITWISE_COMPLEMENT
            && tree.getKind() != Tree.Kind.LOGICAL_COMPLEMENT && tree.getKind() != Tree.Kind.UNARY_PLUS) {
            checkChange(tree.getExpression());
        }
        return super.visitUnary(tree, none);
    }

    // Rule 10
    @Override
    public Void visitBinary(BinaryTree tree, Void none) {
        if (tree.getKind() == Tree.Kind.PLUS && isText(trees.getTypeMirror(getCurrentPath()))) {
            wrong(10, tree, "texts joined by +");
        }
        return super.visitBinary(tree, none);
    }

    // Rule 6
    @Override
    public Void visitThrow(ThrowTree tree, Void none) {
        ExpressionTree thrown = tree.getExpression();
        boolean fits = false;
        if (thrown instanceof NewClassTree) {
            NewClassTree made = (NewClassTree) thrown;
            List<? extends ExpressionTree> given = made.getArguments();
            fits = THROWN.contains(String.valueOf(type(thrown)))
                && (given.isEmpty() || given.size() == 1 && given.get(0) instanceof LiteralTree);
        }
        if (!fits) {
            wrong(6, tree, "throw of " + thrown);
        }
        ExecutableElement from = method();
        if (from != null && from.getKind() == ElementKind.CONSTRUCTOR) {
            wrong(6, tree, "throw in a constructor");
        }
        return super.visitThrow(tree, none);
    }

    @Override
    public Void visitTry(TryTree tree, Void none) {
        wrong(6, tree, "try");
        return super.visitTry(tree, none);
    }

    @Override
    public Void visitSynchronized(SynchronizedTree tree, Void none) {
        wrong(6, tree, "synchronized");
        return super.visitSynchronized(tree, none);
    }

    @Override
    public Void visitAssert(AssertTree tree, Void none) {
        wrong(6, tree, "assert");
        return super.visitAssert(tree, none);
    }

    @Override
    public Void visitInstanceOf(InstanceOfTree tree, Void none) {
        wrong(6, tree, "instanceof");
        return super.visitInstanceOf(tree, none);
    }

    @Override
    public Void visitTypeCast(TypeCastTree tree, Void none) {
        if (!NUMBERS.contains(trees.getTypeMirror(getCurrentPath()).getKind())) {
            wrong(6, tree, "a cast to " + tree.getType());
        }
        return super.visitTypeCast(tree, none);
    }

    // Rule 2
    @Override
    public Void visitLambdaExpression(LambdaExpressionTree tree, Void none) {
        wrong(2, tree, "a lambda");
        return super.visitLambdaExpression(tree, none);
    }

    @Override
    public Void visitMemberReference(MemberReferenceTree tree, Void none) {
        wrong(2, tree, "a method reference");
        return super.visitMemberReference(tree, none);
    }

    // Rule 9
    @Override
    public Void visitForLoop(ForLoopTree tree, Void none) {
        checkLoop(tree, tree.getCondition(), tree.getUpdate());
        return super.visitForLoop(tree, none);
    }

    @Override
    public Void visitWhileLoop(WhileLoopTree tree, Void none) {
        checkLoop(tree, tree.getCondition(), List.of(tree.getStatement()));
        return super.visitWhileLoop(tree, none);
    }

    @Override
    public Void visitDoWhileLoop(DoWhileLoopTree tree, Void none) {
        checkLoop(tree, tree.getCondition(), List.of(tree.getStatement()));
        return super.visitDoWhileLoop(tree, none);
    }

    /** One that is counted in each round is held against a bound. */
    private void checkLoop(Tree at, ExpressionTree condition, List<? extends StatementTree> rounds) {
        Set<String> bound = new HashSet<>();
        new TreeScanner<Void, Void>() {
            @Override
            public Void visitBinary(BinaryTree tree, Void none) {
                if (BOUNDS.contains(tree.getKind())) {
                    bound.add(tree.getLeftOperand().toString());
                    bound.add(tree.getRightOperand().toString());
                }
                // Of what is held by "or" no part alone ends the loop.
                return tree.getKind() == Tree.Kind.CONDITIONAL_OR ? null : super.visitBinary(tree, none);
            }
        }.scan(condition, null);
        Set<String> counted = new HashSet<>();
        for (StatementTree round : rounds) {
            new TreeScanner<Void, Void>() {
                @Override
                public Void visitUnary(UnaryTree tree, Void none) {
                    counted.add(tree.getExpression().toString());
                    return super.visitUnary(tree, none);
                }

                @Override
                public Void visitCompoundAssignment(CompoundAssignmentTree tree, Void none) {
                    counted.add(tree.getVariable().toString());
                    return super.visitCompoundAssignment(tree, none);
                }
            }.scan(round, null);
        }
        bound.retainAll(counted);
        if (bound.isEmpty()) {
            wrong(9, at, "a loop without a bound");
        }
    }

    @Override
    public Void visitMemberSelect(MemberSelectTree tree, Void none) {
        Element element = here();
        if (element instanceof TypeElement && !isOwn(element) && element.toString().startsWith("java.lang.reflect")) {
            wrong(4, tree, "reflection");
        }
        return super.visitMemberSelect(tree, none);
    }

    // Rules 8, 11
    private void depths() {
        for (ExecutableElement from : calls.keySet()) {
            int depth = depth(from);
            if (depth > MOST_DEEP) {
                wrong(11, unit, from + " goes " + depth + " deep");
            }
        }
    }

    private int depth(ExecutableElement from) {
        Integer known = depths.get(from);
        if (known != null) {
            return known;
        }
        if (!open.add(from)) {
            wrong(8, unit, from + " calls itself");
            return 0;
        }
        int deepest = 0;
        for (ExecutableElement to : calls.getOrDefault(from, Set.of())) {
            deepest = Math.max(deepest, depth(to));
        }
        open.remove(from);
        depths.put(from, deepest + 1);
        return deepest + 1;
    }
}
