import com.sun.source.tree.ArrayTypeTree;
import com.sun.source.tree.AssignmentTree;
import com.sun.source.tree.BinaryTree;
import com.sun.source.tree.ClassTree;
import com.sun.source.tree.CompilationUnitTree;
import com.sun.source.tree.CompoundAssignmentTree;
import com.sun.source.tree.DoWhileLoopTree;
import com.sun.source.tree.EnhancedForLoopTree;
import com.sun.source.tree.ExpressionStatementTree;
import com.sun.source.tree.ExpressionTree;
import com.sun.source.tree.ForLoopTree;
import com.sun.source.tree.IdentifierTree;
import com.sun.source.tree.LineMap;
import com.sun.source.tree.LiteralTree;
import com.sun.source.tree.MemberSelectTree;
import com.sun.source.tree.MethodInvocationTree;
import com.sun.source.tree.MethodTree;
import com.sun.source.tree.NewArrayTree;
import com.sun.source.tree.NewClassTree;
import com.sun.source.tree.ParenthesizedTree;
import com.sun.source.tree.PrimitiveTypeTree;
import com.sun.source.tree.ReturnTree;
import com.sun.source.tree.Tree;
import com.sun.source.tree.TypeCastTree;
import com.sun.source.tree.UnaryTree;
import com.sun.source.tree.VariableTree;
import com.sun.source.tree.WhileLoopTree;
import com.sun.source.util.JavacTask;
import com.sun.source.util.SourcePositions;
import com.sun.source.util.TreeScanner;
import com.sun.source.util.Trees;
import java.io.File;
import java.util.ArrayList;
import java.util.EnumSet;
import java.util.HashMap;
import java.util.HashSet;
import java.util.List;
import java.util.Map;
import java.util.Set;
import java.util.TreeSet;
import javax.lang.model.element.Modifier;
import javax.lang.model.type.TypeKind;
import javax.tools.JavaCompiler;
import javax.tools.StandardJavaFileManager;
import javax.tools.ToolProvider;

// Reads the source of the class with javac's parser and holds it against the rules of LANGUAGE.md
// that can be seen in its text. It is stricter than the rules where that makes it simpler: arrays
// are made in fields' initialisers alone and have no other name than the field's, and every loop is
// a for loop with a counter. Rule 7 is tested by calls (BoundariesTest); rule 11 follows from rule 3,
// and the public face of rule 1 is FaceTest's.
public final class LanguageTest {
    private static final String SOURCE = "src/main/java/GridPolygons.java";

    private static final Set<Tree.Kind> FORBIDDEN = EnumSet.of(
        Tree.Kind.THROW, Tree.Kind.TRY, Tree.Kind.CATCH, Tree.Kind.SYNCHRONIZED, Tree.Kind.ASSERT,
        Tree.Kind.INSTANCE_OF, Tree.Kind.LAMBDA_EXPRESSION, Tree.Kind.MEMBER_REFERENCE);

    private static final Set<TypeKind> TYPES = EnumSet.of(
        TypeKind.INT, TypeKind.LONG, TypeKind.SHORT, TypeKind.BYTE, TypeKind.CHAR, TypeKind.BOOLEAN);

    private static final int MOST_PARAMETERS = 7;
    private static final int MOST_LINES = 60;
    private static final int MOST_DEEP = 6;
    private static final int MOST_FIELDS = 40;

    private static int wrong = 0;
    private static CompilationUnitTree unit;
    private static SourcePositions positions;

    private static final Set<String> arrayFields = new HashSet<>();
    private static final Set<String> constants = new HashSet<>();
    private static final Map<String, Set<String>> callsOf = new HashMap<>();

    private static void fault(int rule, Tree at, String text) {
        wrong++;
        LineMap lines = unit.getLineMap();
        long line = at == null ? 0 : lines.getLineNumber(positions.getStartPosition(unit, at));
        System.out.println("rule " + rule + ", line " + line + ": " + text);
    }

    private static void parse() throws Exception {
        JavaCompiler compiler = ToolProvider.getSystemJavaCompiler();
        try (StandardJavaFileManager files = compiler.getStandardFileManager(null, null, null)) {
            JavacTask task = (JavacTask) compiler.getTask(
                null, files, null, null, null, files.getJavaFileObjects(new File(SOURCE)));
            unit = task.parse().iterator().next();
            positions = Trees.instance(task).getSourcePositions();
        }
    }

    // ---- the class and its members ----

    private static void oneClass() {
        if (unit.getPackageName() != null) {
            fault(1, unit.getPackage(), "a package line");
        }
        if (!unit.getImports().isEmpty()) {
            fault(3, unit.getImports().get(0), "something is imported");
        }
        if (unit.getTypeDecls().size() != 1) {
            fault(1, unit, "not just one class");
        }
    }

    private static void members(ClassTree type) {
        int fields = 0;
        for (Tree member : type.getMembers()) {
            if (member instanceof VariableTree) {
                fields += field((VariableTree) member);
            } else if (member instanceof MethodTree) {
                method((MethodTree) member);
            } else {
                fault(1, member, "neither a field nor a method: " + member.getKind());
            }
        }
        if (fields > MOST_FIELDS) {
            fault(10, type, fields + " fields");
        }
    }

    // Answers 1 for a field that is no constant.
    private static int field(VariableTree field) {
        Set<Modifier> flags = field.getModifiers().getFlags();
        String name = field.getName().toString();
        boolean isArray = field.getType() instanceof ArrayTypeTree;
        if (flags.contains(Modifier.STATIC)) {
            boolean isNumber = isType(field.getType(), TypeKind.INT) || isType(field.getType(), TypeKind.LONG);
            if (!flags.contains(Modifier.FINAL) || !isNumber || !isConstant(field.getInitializer())) {
                fault(5, field, name + " is static, but no constant of int or long");
            }
            constants.add(name);
            return 0;
        }
        if (!flags.contains(Modifier.PRIVATE)) {
            fault(1, field, name + " is not private");
        }
        if (isArray) {
            arrayFields.add(name);
            arrayIsMadeWhole(field, name);
        }
        return 1;
    }

    private static void arrayIsMadeWhole(VariableTree field, String name) {
        if (!(field.getInitializer() instanceof NewArrayTree)) {
            fault(4, field, name + " is not made in its initialiser");
            return;
        }
        NewArrayTree made = (NewArrayTree) field.getInitializer();
        boolean hasLength = made.getDimensions().size() == 1 && made.getInitializers() == null;
        if (!hasLength || !isConstant(made.getDimensions().get(0))) {
            fault(4, field, name + " has no length that is a literal or a constant");
        }
    }

    private static void method(MethodTree method) {
        String name = method.getName().toString();
        if (method.getParameters().size() > MOST_PARAMETERS) {
            fault(10, method, name + " takes " + method.getParameters().size() + " parameters");
        }
        LineMap lines = unit.getLineMap();
        long first = lines.getLineNumber(positions.getStartPosition(unit, method));
        long last = lines.getLineNumber(positions.getEndPosition(unit, method));
        if (last - first + 1 > MOST_LINES) {
            fault(10, method, name + " has " + (last - first + 1) + " lines");
        }
        if (method.getReturnType() instanceof ArrayTypeTree) {
            fault(4, method, name + " answers an array");
        }
        Set<String> calls = new TreeSet<>();
        method.accept(new TreeScanner<Void, Void>() {
            @Override
            public Void visitMethodInvocation(MethodInvocationTree call, Void none) {
                calls.add(call.getMethodSelect().toString());
                return super.visitMethodInvocation(call, none);
            }
        }, null);
        calls.remove("super");
        if (callsOf.put(name, calls) != null) {
            fault(1, method, name + " is there twice");
        }
    }

    private static boolean isType(Tree type, TypeKind kind) {
        return type instanceof PrimitiveTypeTree && ((PrimitiveTypeTree) type).getPrimitiveTypeKind() == kind;
    }

    // Literals, constants named before, and what is reckoned from them.
    private static boolean isConstant(ExpressionTree value) {
        if (value instanceof ParenthesizedTree) {
            return isConstant(((ParenthesizedTree) value).getExpression());
        }
        if (value instanceof UnaryTree) {
            return isConstant(((UnaryTree) value).getExpression());
        }
        if (value instanceof BinaryTree) {
            BinaryTree both = (BinaryTree) value;
            return isConstant(both.getLeftOperand()) && isConstant(both.getRightOperand());
        }
        return value instanceof LiteralTree
            || value instanceof IdentifierTree && constants.contains(value.toString());
    }

    // ---- what stands in the methods ----

    private static final class Body extends TreeScanner<Void, Void> {
        private boolean isInMethod = false;
        private boolean isInArguments = false;

        @Override
        public Void scan(Tree tree, Void none) {
            if (tree != null && FORBIDDEN.contains(tree.getKind())) {
                fault(6, tree, "not allowed: " + tree.getKind());
            }
            return super.scan(tree, none);
        }

        @Override
        public Void visitMethod(MethodTree method, Void none) {
            isInMethod = true;
            super.visitMethod(method, none);
            isInMethod = false;
            return null;
        }

        @Override
        public Void visitVariable(VariableTree variable, Void none) {
            Tree type = variable.getType();
            Tree item = type instanceof ArrayTypeTree ? ((ArrayTypeTree) type).getType() : type;
            if (!(item instanceof PrimitiveTypeTree)) {
                fault(2, variable, variable.getName() + " is no number, boolean or array of these");
            }
            if (isInMethod && type instanceof ArrayTypeTree) {
                fault(4, variable, variable.getName() + " is a second name of an array");
            }
            return super.visitVariable(variable, none);
        }

        @Override
        public Void visitPrimitiveType(PrimitiveTypeTree type, Void none) {
            TypeKind kind = type.getPrimitiveTypeKind();
            if (kind != TypeKind.VOID && !TYPES.contains(kind)) {
                fault(2, type, "the type " + kind);
            }
            return super.visitPrimitiveType(type, none);
        }

        @Override
        public Void visitLiteral(LiteralTree literal, Void none) {
            Tree.Kind kind = literal.getKind();
            if (kind == Tree.Kind.STRING_LITERAL || kind == Tree.Kind.NULL_LITERAL
                || kind == Tree.Kind.FLOAT_LITERAL || kind == Tree.Kind.DOUBLE_LITERAL) {
                fault(2, literal, "the literal " + literal);
            }
            return super.visitLiteral(literal, none);
        }

        @Override
        public Void visitMemberSelect(MemberSelectTree select, Void none) {
            boolean isOwn = select.getExpression().toString().equals("this");
            if (!isOwn && !select.getIdentifier().contentEquals("length")) {
                fault(3, select, "of another class: " + select);
            }
            return super.visitMemberSelect(select, none);
        }

        @Override
        public Void visitTypeCast(TypeCastTree cast, Void none) {
            if (!(cast.getType() instanceof PrimitiveTypeTree)) {
                fault(6, cast, "a cast of a reference");
            }
            return super.visitTypeCast(cast, none);
        }

        @Override
        public Void visitNewClass(NewClassTree made, Void none) {
            fault(4, made, "an object is made");
            return super.visitNewClass(made, none);
        }

        @Override
        public Void visitNewArray(NewArrayTree made, Void none) {
            if (isInMethod) {
                fault(4, made, "an array made in a method");
            }
            return super.visitNewArray(made, none);
        }

        @Override
        public Void visitAssignment(AssignmentTree assignment, Void none) {
            if (arrayFields.contains(assignment.getVariable().toString())) {
                fault(4, assignment, "an array field is assigned to");
            }
            return super.visitAssignment(assignment, none);
        }

        @Override
        public Void visitBinary(BinaryTree both, Void none) {
            if (arrayFields.contains(both.getLeftOperand().toString())
                || arrayFields.contains(both.getRightOperand().toString())) {
                fault(4, both, "an array is compared: " + both);
            }
            return super.visitBinary(both, none);
        }

        @Override
        public Void visitReturn(ReturnTree answer, Void none) {
            if (answer.getExpression() != null && arrayFields.contains(answer.getExpression().toString())) {
                fault(4, answer, "an array is answered");
            }
            return super.visitReturn(answer, none);
        }

        @Override
        public Void visitMethodInvocation(MethodInvocationTree call, Void none) {
            String name = call.getMethodSelect().toString();
            if (!name.equals("super") && !callsOf.containsKey(name)) {
                fault(3, call, "no method of the class: " + name);
            }
            if (isInArguments) {
                fault(10, call, "a call inside the arguments of another: " + call);
            }
            boolean before = isInArguments;
            isInArguments = true;
            scan(call.getArguments(), none);
            isInArguments = before;
            return null;
        }

        @Override
        public Void visitForLoop(ForLoopTree loop, Void none) {
            forLoopEnds(loop);
            return super.visitForLoop(loop, none);
        }

        @Override
        public Void visitWhileLoop(WhileLoopTree loop, Void none) {
            fault(8, loop, "a while loop: its end is not seen here");
            return super.visitWhileLoop(loop, none);
        }

        @Override
        public Void visitDoWhileLoop(DoWhileLoopTree loop, Void none) {
            fault(8, loop, "a do loop: its end is not seen here");
            return super.visitDoWhileLoop(loop, none);
        }

        @Override
        public Void visitEnhancedForLoop(EnhancedForLoopTree loop, Void none) {
            fault(8, loop, "a loop without a counter");
            return super.visitEnhancedForLoop(loop, none);
        }
    }

    // One counter that goes up against a bound above it, or down against one below it, and that the
    // loop's body leaves alone.
    private static void forLoopEnds(ForLoopTree loop) {
        boolean hasOne = loop.getInitializer().size() == 1 && loop.getUpdate().size() == 1
            && loop.getInitializer().get(0) instanceof VariableTree;
        if (!hasOne || !(loop.getCondition() instanceof BinaryTree)) {
            fault(8, loop, "no counter against a bound");
            return;
        }
        String counter = ((VariableTree) loop.getInitializer().get(0)).getName().toString();
        Tree update = ((ExpressionStatementTree) loop.getUpdate().get(0)).getExpression();
        BinaryTree condition = (BinaryTree) loop.getCondition();
        boolean goesUp = update.getKind() == Tree.Kind.POSTFIX_INCREMENT
            && (condition.getKind() == Tree.Kind.LESS_THAN || condition.getKind() == Tree.Kind.LESS_THAN_EQUAL);
        boolean goesDown = update.getKind() == Tree.Kind.POSTFIX_DECREMENT
            && (condition.getKind() == Tree.Kind.GREATER_THAN || condition.getKind() == Tree.Kind.GREATER_THAN_EQUAL);
        boolean isCounted = (goesUp || goesDown)
            && ((UnaryTree) update).getExpression().toString().equals(counter)
            && names(condition.getLeftOperand()).contains(counter)
            && !names(condition.getRightOperand()).contains(counter);
        if (!isCounted) {
            fault(8, loop, "the counter " + counter + " does not go against its bound");
        }
        Set<String> changed = changed(loop.getStatement());
        if (changed.contains(counter)) {
            fault(8, loop, "the counter " + counter + " is changed in the loop");
        }
        for (String name : names(condition)) {
            if (changed.contains(name)) {
                fault(8, loop, "the bound " + name + " is changed in the loop");
            }
        }
    }

    private static Set<String> names(Tree tree) {
        Set<String> found = new HashSet<>();
        tree.accept(new TreeScanner<Void, Void>() {
            @Override
            public Void visitIdentifier(IdentifierTree name, Void none) {
                found.add(name.getName().toString());
                return null;
            }
        }, null);
        return found;
    }

    private static Set<String> changed(Tree tree) {
        Set<String> found = new HashSet<>();
        tree.accept(new TreeScanner<Void, Void>() {
            @Override
            public Void visitAssignment(AssignmentTree change, Void none) {
                found.add(change.getVariable().toString());
                return super.visitAssignment(change, none);
            }

            @Override
            public Void visitCompoundAssignment(CompoundAssignmentTree change, Void none) {
                found.add(change.getVariable().toString());
                return super.visitCompoundAssignment(change, none);
            }

            @Override
            public Void visitUnary(UnaryTree change, Void none) {
                Tree.Kind kind = change.getKind();
                if (kind == Tree.Kind.POSTFIX_INCREMENT || kind == Tree.Kind.POSTFIX_DECREMENT
                    || kind == Tree.Kind.PREFIX_INCREMENT || kind == Tree.Kind.PREFIX_DECREMENT) {
                    found.add(change.getExpression().toString());
                }
                return super.visitUnary(change, none);
            }
        }, null);
        return found;
    }

    // ---- how deep calls go ----

    private static void callsEnd() {
        for (String name : new TreeSet<>(callsOf.keySet())) {
            List<String> path = new ArrayList<>();
            path.add(name);
            follow(path);
        }
    }

    private static void follow(List<String> path) {
        String last = path.get(path.size() - 1);
        if (path.indexOf(last) < path.size() - 1) {
            fault(8, null, "recursion: " + path);
            return;
        }
        if (path.size() > MOST_DEEP) {
            fault(10, null, "calls go too deep: " + path);
            return;
        }
        for (String next : callsOf.getOrDefault(last, Set.of())) {
            path.add(next);
            follow(path);
            path.remove(path.size() - 1);
        }
    }

    public static void main(String[] args) throws Exception {
        parse();
        oneClass();
        ClassTree type = (ClassTree) unit.getTypeDecls().get(0);
        members(type);
        type.accept(new Body(), null);
        callsEnd();
        System.out.println(wrong == 0 ? "the source keeps to the rules" : wrong + " breaches of the rules");
        if (wrong != 0) {
            System.exit(1);
        }
    }
}
