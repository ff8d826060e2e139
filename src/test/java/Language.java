import com.sun.source.tree.*;
import com.sun.source.util.JavacTask;
import com.sun.source.util.SourcePositions;
import com.sun.source.util.TreeScanner;
import com.sun.source.util.Trees;
import java.io.IOException;
import java.net.URI;
import java.util.ArrayList;
import java.util.HashMap;
import java.util.List;
import java.util.Map;
import java.util.Set;
import java.util.TreeSet;
import javax.lang.model.element.Modifier;
import javax.lang.model.type.TypeKind;
import javax.tools.JavaFileObject;
import javax.tools.SimpleJavaFileObject;
import javax.tools.ToolProvider;

/**
 * Where a source leaves the rules of LANGUAGE.md, as far as its syntax tree shows it. In places
 * it asks for more than the rule, where the rule's own words would need types or a proof:
 * arrays are made in fields' initialisers alone, a method has no array of its own, and every
 * loop is a for over a counter of its own.
 */
final class Language extends TreeScanner<Void, Void> {
    private static final Set<TypeKind> NUMBERS = Set.of(TypeKind.INT, TypeKind.LONG, TypeKind.SHORT,
        TypeKind.BYTE, TypeKind.CHAR, TypeKind.BOOLEAN);
    private static final Set<Tree.Kind> WHOLE_LITERALS = Set.of(Tree.Kind.INT_LITERAL, Tree.Kind.LONG_LITERAL,
        Tree.Kind.CHAR_LITERAL, Tree.Kind.BOOLEAN_LITERAL);
    private static final int MOST_PARAMETERS = 7;
    private static final int MOST_LINES = 60;
    private static final int MOST_DEPTH = 6;
    private static final int MOST_FIELDS = 40;

    private final List<String> breaches = new ArrayList<>();
    private final SourcePositions positions;
    private final CompilationUnitTree unit;

    private final Set<String> constants = new TreeSet<>();
    private final Set<String> arrays = new TreeSet<>();
    private final Map<String, Set<String>> calls = new HashMap<>();
    private int fields = 0;
    private String method = null;
    private boolean inArguments = false;

    private Language(CompilationUnitTree unit, SourcePositions positions) {
        this.unit = unit;
        this.positions = positions;
    }

    /** Each breach begins with "rule" and the rule's number. */
    static List<String> breaches(String source) throws IOException {
        JavaFileObject file = new SimpleJavaFileObject(URI.create("string:///InductChecker.java"),
            JavaFileObject.Kind.SOURCE) {
            @Override
            public CharSequence getCharContent(boolean ignoreEncodingErrors) {
                return source;
            }
        };
        JavacTask task = (JavacTask) ToolProvider.getSystemJavaCompiler().getTask(null, null, null,
            List.of("-proc:none"), null, List.of(file));
        CompilationUnitTree unit = task.parse().iterator().next();
        Language language = new Language(unit, Trees.instance(task).getSourcePositions());
        language.scan(unit, null);
        return language.breaches;
    }

    private void breach(int rule, Tree where, String what) {
        long line = unit.getLineMap().getLineNumber(positions.getStartPosition(unit, where));
        breaches.add("rule " + rule + ": line " + line + ": " + what);
    }

    private Void refuse(int rule, Tree where, String what) {
        breach(rule, where, what);
        return null;
    }

    @Override
    public Void visitCompilationUnit(CompilationUnitTree tree, Void none) {
        if (tree.getPackageName() != null || tree.getTypeDecls().size() != 1) {
            breach(1, tree, "a package line, or not just one class");
        }
        if (!tree.getImports().isEmpty()) {
            breach(3, tree, "an import");
        }
        for (Tree type : tree.getTypeDecls()) {
            scan(type, null);
        }
        return null;
    }

    @Override
    public Void visitClass(ClassTree tree, Void none) {
        for (Tree member : tree.getMembers()) {
            collect(member);
        }
        for (Tree member : tree.getMembers()) {
            if (member instanceof ClassTree) {
                breach(1, member, "a nested class");
            } else if (member instanceof BlockTree) {
                breach(5, member, "an initialiser that is not a field's");
            } else {
                scan(member, null);
            }
        }
        if (fields > MOST_FIELDS) {
            breach(10, tree, fields + " fields");
        }
        for (String name : calls.keySet()) {
            measureDepth(tree, name);
        }
        return null;
    }

    // All names are known before the first method is looked at, as a method may come before what it uses.
    private void collect(Tree member) {
        if (member instanceof MethodTree) {
            calls.put(((MethodTree) member).getName().toString(), new TreeSet<>());
        } else if (member instanceof VariableTree) {
            VariableTree field = (VariableTree) member;
            String name = field.getName().toString();
            if (field.getType() instanceof ArrayTypeTree) {
                arrays.add(name);
            }
            if (isStatic(field)) {
                constants.add(name);
            } else {
                fields++;
            }
        }
    }

    private static boolean isStatic(VariableTree field) {
        return field.getModifiers().getFlags().contains(Modifier.STATIC);
    }

    // Rounds instead of recursion: a way of more calls than there are methods goes in a circle.
    private void measureDepth(Tree where, String start) {
        Set<String> level = Set.of(start);
        int depth = 0;
        while (!level.isEmpty() && depth <= calls.size()) {
            depth++;
            Set<String> below = new TreeSet<>();
            for (String name : level) {
                below.addAll(calls.get(name));
            }
            level = below;
        }
        if (depth > calls.size()) {
            breach(8, where, start + " comes to a recursion");
        } else if (depth > MOST_DEPTH) {
            breach(10, where, start + " goes " + depth + " deep");
        }
    }

    private static boolean isNumber(Tree type) {
        return type instanceof PrimitiveTypeTree && NUMBERS.contains(((PrimitiveTypeTree) type).getPrimitiveTypeKind());
    }

    private static boolean isVoid(Tree type) {
        return type instanceof PrimitiveTypeTree
            && ((PrimitiveTypeTree) type).getPrimitiveTypeKind() == TypeKind.VOID;
    }

    private static boolean isAllowed(Tree type) {
        return isNumber(type) || type instanceof ArrayTypeTree && isNumber(((ArrayTypeTree) type).getType());
    }

    @Override
    public Void visitMethod(MethodTree tree, Void none) {
        method = tree.getName().toString();
        Tree answer = tree.getReturnType();
        if (answer instanceof ArrayTypeTree) {
            breach(4, tree, "an array is answered");
        } else if (answer != null && !isNumber(answer) && !isVoid(answer)) {
            breach(2, tree, "answers " + answer);
        }
        if (tree.getParameters().size() > MOST_PARAMETERS) {
            breach(10, tree, "too many parameters");
        }
        if (!tree.getThrows().isEmpty()) {
            breach(6, tree, "throws");
        }
        if (lines(tree) > MOST_LINES) {
            breach(10, tree, "a method of " + lines(tree) + " lines");
        }
        for (VariableTree parameter : tree.getParameters()) {
            checkType(parameter);
        }
        scan(tree.getBody(), null);
        method = null;
        return null;
    }

    private long lines(Tree tree) {
        LineMap map = unit.getLineMap();
        long first = map.getLineNumber(positions.getStartPosition(unit, tree));
        return 1 + map.getLineNumber(positions.getEndPosition(unit, tree)) - first;
    }

    private void checkType(VariableTree tree) {
        if (!isAllowed(tree.getType())) {
            breach(2, tree, tree.getName() + " is of type " + tree.getType());
        }
    }

    @Override
    public Void visitVariable(VariableTree tree, Void none) {
        checkType(tree);
        if (method == null && isStatic(tree)) {
            checkConstant(tree);
        }
        if (method != null && tree.getType() instanceof ArrayTypeTree) {
            breach(4, tree, "a method's own array " + tree.getName());
        }
        return scan(tree.getInitializer(), null);
    }

    private void checkConstant(VariableTree tree) {
        Tree type = tree.getType();
        boolean isWhole = isNumber(type) && Set.of("int", "long").contains(type.toString());
        if (!isWhole || !tree.getModifiers().getFlags().contains(Modifier.FINAL) || tree.getInitializer() == null) {
            breach(5, tree, tree.getName() + " is no constant of int or long");
        }
    }

    @Override
    public Void visitLiteral(LiteralTree tree, Void none) {
        if (tree.getKind() == Tree.Kind.NULL_LITERAL) {
            return refuse(4, tree, "null");
        }
        return WHOLE_LITERALS.contains(tree.getKind()) ? null : refuse(2, tree, "the literal " + tree);
    }

    @Override
    public Void visitMemberSelect(MemberSelectTree tree, Void none) {
        boolean isOwn = tree.getExpression().toString().equals("this");
        boolean isLength = tree.getIdentifier().contentEquals("length");
        return isOwn || isLength ? scan(tree.getExpression(), null) : refuse(3, tree, tree.toString());
    }

    @Override
    public Void visitMethodInvocation(MethodInvocationTree tree, Void none) {
        String called = tree.getMethodSelect().toString();
        if (!calls.containsKey(called)) {
            breach(3, tree, "a call of " + called + ", which is not a method of the class");
        } else if (method == null) {
            breach(3, tree, "a call in a field's initialiser");
        } else {
            calls.get(method).add(called);
        }
        if (inArguments) {
            breach(10, tree, "a call inside the arguments of another");
        }
        boolean before = inArguments;
        inArguments = true;
        scan(tree.getArguments(), null);
        inArguments = before;
        return null;
    }

    @Override
    public Void visitNewClass(NewClassTree tree, Void none) {
        return refuse(4, tree, "an object is made");
    }

    @Override
    public Void visitNewArray(NewArrayTree tree, Void none) {
        if (method != null) {
            breach(4, tree, "an array is made outside the fields' initialisers");
        }
        if (tree.getInitializers() != null || tree.getDimensions().size() != 1
            || !isConstantLength(tree.getDimensions().get(0))) {
            breach(4, tree, "the length of an array is no literal and no constant");
        }
        return null;
    }

    private boolean isConstantLength(ExpressionTree length) {
        boolean isLiteral = length.getKind() == Tree.Kind.INT_LITERAL && !length.toString().equals("0");
        return isLiteral || constants.contains(length.toString());
    }

    private boolean isArray(ExpressionTree tree) {
        String name = tree.toString();
        return arrays.contains(name.startsWith("this.") ? name.substring("this.".length()) : name);
    }

    @Override
    public Void visitAssignment(AssignmentTree tree, Void none) {
        if (isArray(tree.getVariable())) {
            breach(4, tree, "an array field is assigned to");
        }
        return super.visitAssignment(tree, none);
    }

    @Override
    public Void visitBinary(BinaryTree tree, Void none) {
        if (isArray(tree.getLeftOperand()) || isArray(tree.getRightOperand())) {
            breach(4, tree, "an array is compared");
        }
        boolean divides = tree.getKind() == Tree.Kind.DIVIDE || tree.getKind() == Tree.Kind.REMAINDER;
        if (divides && !isConstantLength(tree.getRightOperand())) {
            breach(7, tree, "a divisor that may be 0");
        }
        return super.visitBinary(tree, none);
    }

    @Override
    public Void visitCompoundAssignment(CompoundAssignmentTree tree, Void none) {
        boolean divides = tree.getKind() == Tree.Kind.DIVIDE_ASSIGNMENT
            || tree.getKind() == Tree.Kind.REMAINDER_ASSIGNMENT;
        if (divides && !isConstantLength(tree.getExpression())) {
            breach(7, tree, "a divisor that may be 0");
        }
        return super.visitCompoundAssignment(tree, none);
    }

    @Override
    public Void visitTypeCast(TypeCastTree tree, Void none) {
        return isNumber(tree.getType()) ? scan(tree.getExpression(), null) : refuse(6, tree, "a cast");
    }

    @Override
    public Void visitThrow(ThrowTree tree, Void none) {
        return refuse(6, tree, "throw");
    }

    @Override
    public Void visitTry(TryTree tree, Void none) {
        return refuse(6, tree, "try");
    }

    @Override
    public Void visitSynchronized(SynchronizedTree tree, Void none) {
        return refuse(6, tree, "synchronized");
    }

    @Override
    public Void visitAssert(AssertTree tree, Void none) {
        return refuse(6, tree, "assert");
    }

    @Override
    public Void visitInstanceOf(InstanceOfTree tree, Void none) {
        return refuse(6, tree, "instanceof");
    }

    @Override
    public Void visitLambdaExpression(LambdaExpressionTree tree, Void none) {
        return refuse(6, tree, "a lambda");
    }

    @Override
    public Void visitMemberReference(MemberReferenceTree tree, Void none) {
        return refuse(6, tree, "a method reference");
    }

    @Override
    public Void visitWhileLoop(WhileLoopTree tree, Void none) {
        return refuse(8, tree, "a loop without a counter");
    }

    @Override
    public Void visitDoWhileLoop(DoWhileLoopTree tree, Void none) {
        return refuse(8, tree, "a loop without a counter");
    }

    @Override
    public Void visitEnhancedForLoop(EnhancedForLoopTree tree, Void none) {
        return refuse(8, tree, "a loop without a counter");
    }

    @Override
    public Void visitForLoop(ForLoopTree tree, Void none) {
        if (!countsUp(tree)) {
            breach(8, tree, "a loop that is not 'int counter = ..; counter < bound; counter++'");
        }
        return super.visitForLoop(tree, none);
    }

    private static boolean countsUp(ForLoopTree tree) {
        if (tree.getInitializer().size() != 1 || tree.getUpdate().size() != 1
            || !(tree.getInitializer().get(0) instanceof VariableTree) || tree.getCondition() == null) {
            return false;
        }
        String counter = ((VariableTree) tree.getInitializer().get(0)).getName().toString();
        if (tree.getCondition().getKind() != Tree.Kind.LESS_THAN
            && tree.getCondition().getKind() != Tree.Kind.LESS_THAN_EQUAL) {
            return false;
        }
        BinaryTree condition = (BinaryTree) tree.getCondition();
        String bound = condition.getRightOperand().toString();
        boolean isSimple = condition.getRightOperand() instanceof IdentifierTree
            || condition.getRightOperand() instanceof LiteralTree;
        Set<String> changed = changedIn(tree.getStatement());
        return isSimple && condition.getLeftOperand().toString().equals(counter)
            && tree.getUpdate().get(0).toString().equals(counter + "++;")
            && !changed.contains(counter) && !changed.contains(bound);
    }

    private static Set<String> changedIn(Tree body) {
        Set<String> changed = new TreeSet<>();
        new TreeScanner<Void, Void>() {
            @Override
            public Void visitAssignment(AssignmentTree tree, Void none) {
                changed.add(tree.getVariable().toString());
                return super.visitAssignment(tree, none);
            }

            @Override
            public Void visitCompoundAssignment(CompoundAssignmentTree tree, Void none) {
                changed.add(tree.getVariable().toString());
                return super.visitCompoundAssignment(tree, none);
            }

            @Override
            public Void visitUnary(UnaryTree tree, Void none) {
                Tree.Kind kind = tree.getKind();
                if (kind == Tree.Kind.PREFIX_INCREMENT || kind == Tree.Kind.PREFIX_DECREMENT
                    || kind == Tree.Kind.POSTFIX_INCREMENT || kind == Tree.Kind.POSTFIX_DECREMENT) {
                    changed.add(tree.getExpression().toString());
                }
                return super.visitUnary(tree, none);
            }
        }.scan(body, null);
        return changed;
    }
}
