import com.sun.source.tree.ArrayAccessTree;
import com.sun.source.tree.BinaryTree;
import com.sun.source.tree.ClassTree;
import com.sun.source.tree.CompilationUnitTree;
import com.sun.source.tree.DoWhileLoopTree;
import com.sun.source.tree.ExpressionTree;
import com.sun.source.tree.ForLoopTree;
import com.sun.source.tree.IdentifierTree;
import com.sun.source.tree.LiteralTree;
import com.sun.source.tree.MemberSelectTree;
import com.sun.source.tree.MethodInvocationTree;
import com.sun.source.tree.MethodTree;
import com.sun.source.tree.NewArrayTree;
import com.sun.source.tree.ParenthesizedTree;
import com.sun.source.tree.Tree;
import com.sun.source.tree.Tree.Kind;
import com.sun.source.tree.TypeCastTree;
import com.sun.source.tree.VariableTree;
import com.sun.source.tree.WhileLoopTree;
import com.sun.source.util.JavacTask;
import com.sun.source.util.SourcePositions;
import com.sun.source.util.TreeScanner;
import com.sun.source.util.Trees;
import java.io.IOException;
import java.nio.file.Path;
import java.util.EnumSet;
import java.util.HashSet;
import java.util.List;
import java.util.Map;
import java.util.Set;
import java.util.TreeMap;
import java.util.TreeSet;
import javax.lang.model.element.Modifier;
import javax.tools.JavaCompiler;
import javax.tools.StandardJavaFileManager;
import javax.tools.ToolProvider;

/**
 * The rules of LANGUAGE.md that can be seen in the source, each by its number, in places more
 * strictly than there. That no call throws or fails to end (rule 7) is what RefusalTest tries, and
 * what is public (rule 1) is what FaceTest looks at.
 */
public final class LanguageTest {
    private static final Path SOURCE = Path.of("src/main/java/WordSolver.java");
    private static final int MOST_PARAMETERS = 7;
    private static final int MOST_LINES = 60;
    private static final int DEEPEST = 6;
    private static final int MOST_FIELDS = 40;

    private static final Set<String> TYPES = Set.of("int", "long", "short", "byte", "char", "boolean");
    private static final Set<Modifier> MODIFIERS =
        EnumSet.of(Modifier.PUBLIC, Modifier.PRIVATE, Modifier.STATIC);
    private static final Set<Kind> RULED_OUT = EnumSet.of(
        Kind.THROW, Kind.TRY, Kind.CATCH, Kind.SYNCHRONIZED, Kind.ASSERT, Kind.INSTANCE_OF,
        Kind.LAMBDA_EXPRESSION, Kind.MEMBER_REFERENCE, Kind.NEW_CLASS, Kind.ENHANCED_FOR_LOOP,
        Kind.ANNOTATION, Kind.STRING_LITERAL, Kind.NULL_LITERAL, Kind.FLOAT_LITERAL,
        Kind.DOUBLE_LITERAL);

    private final CompilationUnitTree unit;
    private final SourcePositions positions;
    private final Map<String, Set<String>> callsOf = new TreeMap<>();
    private final Set<String> arrays = new HashSet<>();
    private final Set<String> constants = new HashSet<>();

    private LanguageTest(CompilationUnitTree unit, SourcePositions positions) {
        this.unit = unit;
        this.positions = positions;
    }

    public static void main(String[] args) throws IOException {
        JavaCompiler compiler = ToolProvider.getSystemJavaCompiler();
        try (StandardJavaFileManager files = compiler.getStandardFileManager(null, null, null)) {
            JavacTask task = (JavacTask) compiler.getTask(null, files, null, null, null,
                files.getJavaFileObjects(SOURCE));
            CompilationUnitTree unit = task.parse().iterator().next();
            new LanguageTest(unit, Trees.instance(task).getSourcePositions()).look();
        }
        Due.end();
    }

    private void look() {
        Due.is("rule 1: no package line", unit.getPackageName() == null, true);
        Due.eq("rule 3: imports", unit.getImports().size(), 0);
        Due.eq("rule 1: classes", unit.getTypeDecls().size(), 1);
        ClassTree top = (ClassTree) unit.getTypeDecls().get(0);
        Due.alike("rule 1: the kind of class", top.getKind(), Kind.CLASS);
        for (Tree member : top.getMembers()) {
            lookAtMember(member);
        }
        lookAtNames(top);
        lookAtCalls();
        new Everywhere().scan(top, null);
    }

    private void lookAtMember(Tree member) {
        if (member instanceof VariableTree field) {
            lookAtField(field);
        } else if (member instanceof MethodTree method) {
            lookAtMethod(method);
        } else {
            fault("rule 1 or 5: neither field nor method", member);
        }
    }

    private void lookAtField(VariableTree field) {
        if (field.getType().getKind() == Kind.ARRAY_TYPE) {
            arrays.add(field.getName().toString());
        }
        if (!field.getModifiers().getFlags().contains(Modifier.STATIC)) {
            return;
        }
        constants.add(field.getName().toString());
        String type = field.getType().toString();
        Due.is("rule 5: " + field.getName() + " is a constant of int or long",
            field.getModifiers().getFlags().contains(Modifier.FINAL) && field.getInitializer() != null
                && (type.equals("int") || type.equals("long")), true);
        Due.alike("rule 5: calls for " + field.getName(), callsIn(field.getInitializer()), Set.of());
    }

    private void lookAtMethod(MethodTree method) {
        String name = method.getName().toString();
        Tree answered = method.getReturnType();
        if (answered != null && answered.getKind() == Kind.ARRAY_TYPE) {
            fault("rule 4: an array is answered by " + name, method);
        }
        Due.is("rule 10: parameters of " + name, method.getParameters().size() <= MOST_PARAMETERS, true);
        long first = line(positions.getStartPosition(unit, method));
        long last = line(positions.getEndPosition(unit, method));
        Due.is("rule 10: lines of " + name, last - first < MOST_LINES, true);
        Due.is("rule 6: modifiers of " + name + ", " + method.getModifiers(),
            MODIFIERS.containsAll(method.getModifiers().getFlags()), true);
        callsOf.computeIfAbsent(name, n -> new TreeSet<>()).addAll(callsIn(method.getBody()));
    }

    private static Set<String> callsIn(Tree tree) {
        Set<String> called = new TreeSet<>();
        new TreeScanner<Void, Void>() {
            @Override
            public Void visitMethodInvocation(MethodInvocationTree call, Void none) {
                called.add(call.getMethodSelect().toString());
                return super.visitMethodInvocation(call, none);
            }
        }.scan(tree, null);
        return called;
    }

    private void lookAtNames(ClassTree top) {
        Set<String> names = new HashSet<>();
        int fields = 0;
        for (Tree member : top.getMembers()) {
            if (member instanceof MethodTree method) {
                Due.is("rule 1: " + method.getName() + " is the name of one method alone",
                    names.add(method.getName().toString()), true);
            } else if (member instanceof VariableTree field) {
                fields += constants.contains(field.getName().toString()) ? 0 : 1;
            }
        }
        Due.is("rule 10: " + fields + " fields are not too many", fields <= MOST_FIELDS, true);
    }

    /** No method is reached from itself, and no row of calls is longer than it may be. */
    private void lookAtCalls() {
        Set<String> above = new TreeSet<>(callsOf.keySet());
        int depth = 0;
        // Those that are called by methods of the row before: it runs dry if nothing is recursive.
        while (!above.isEmpty() && depth <= callsOf.size()) {
            Set<String> below = new TreeSet<>();
            for (String name : above) {
                below.addAll(callsOf.getOrDefault(name, Set.of()));
            }
            Due.is("rule 3: all of " + below + " are methods of the class",
                callsOf.keySet().containsAll(below), true);
            above = below;
            depth++;
        }
        Due.is("rule 8: no recursion in " + above, above.isEmpty(), true);
        Due.is("rule 10: calls go " + depth + " deep", depth <= DEEPEST, true);
    }

    private void fault(String what, Tree tree) {
        long line = line(positions.getStartPosition(unit, tree));
        Due.alike("line " + line + ", " + what, tree.toString().strip(), "nothing of the kind");
    }

    private long line(long position) {
        return unit.getLineMap().getLineNumber(position);
    }

    private final class Everywhere extends TreeScanner<Void, Void> {
        private boolean inMethod = false;
        private boolean inArguments = false;

        @Override
        public Void scan(Tree tree, Void none) {
            if (tree != null && RULED_OUT.contains(tree.getKind())) {
                fault("rule 2, 3 or 6: " + tree.getKind(), tree);
            }
            return super.scan(tree, none);
        }

        @Override
        public Void visitMethod(MethodTree method, Void none) {
            inMethod = true;
            super.visitMethod(method, none);
            inMethod = false;
            return null;
        }

        @Override
        public Void visitTypeCast(TypeCastTree cast, Void none) {
            if (!TYPES.contains(cast.getType().toString())) {
                fault("rule 6: a cast of a reference", cast);
            }
            return super.visitTypeCast(cast, none);
        }

        @Override
        public Void visitVariable(VariableTree variable, Void none) {
            // A type that is not told (var) has no tree.
            String type = String.valueOf(variable.getType());
            boolean isArray = type.endsWith("[]");
            if (!TYPES.contains(isArray ? type.substring(0, type.length() - 2) : type)) {
                fault("rule 2: the type", variable);
            }
            if (isArray && inMethod) {
                fault("rule 4: an array that is no field", variable);
            }
            return super.visitVariable(variable, none);
        }

        @Override
        public Void visitNewArray(NewArrayTree made, Void none) {
            boolean isPlain = made.getInitializers() == null && made.getDimensions().size() == 1;
            ExpressionTree length = isPlain ? made.getDimensions().get(0) : null;
            if (inMethod || !isPlain || !(length instanceof LiteralTree || isConstant(length))) {
                fault("rule 4: an array is made", made);
            }
            return super.visitNewArray(made, none);
        }

        private boolean isConstant(ExpressionTree length) {
            return length instanceof IdentifierTree name && constants.contains(name.getName().toString());
        }

        /** An array stands nowhere but before an index: not assigned, compared, answered or handed on. */
        @Override
        public Void visitIdentifier(IdentifierTree name, Void none) {
            if (arrays.contains(name.getName().toString())) {
                fault("rule 4: an array without an index", name);
            }
            return null;
        }

        @Override
        public Void visitArrayAccess(ArrayAccessTree access, Void none) {
            if (!(access.getExpression() instanceof IdentifierTree)) {
                fault("rule 4: an index behind something that is no name", access);
            }
            return scan(access.getIndex(), none);
        }

        @Override
        public Void visitMemberSelect(MemberSelectTree selected, Void none) {
            fault("rule 3: something of another class or object", selected);
            return null;
        }

        @Override
        public Void visitMethodInvocation(MethodInvocationTree call, Void none) {
            if (inArguments) {
                fault("rule 10: a call inside the arguments of another", call);
            }
            inArguments = true;
            scan(call.getArguments(), none);
            inArguments = false;
            return null;
        }

        @Override
        public Void visitForLoop(ForLoopTree loop, Void none) {
            if (loop.getUpdate().size() != 1) {
                fault("rule 8: a for loop without one counter", loop);
            }
            lookAtEnd(loop.getCondition(), loop);
            return super.visitForLoop(loop, none);
        }

        @Override
        public Void visitWhileLoop(WhileLoopTree loop, Void none) {
            lookAtEnd(loop.getCondition(), loop);
            return super.visitWhileLoop(loop, none);
        }

        @Override
        public Void visitDoWhileLoop(DoWhileLoopTree loop, Void none) {
            lookAtEnd(loop.getCondition(), loop);
            return super.visitDoWhileLoop(loop, none);
        }

        /** A counter against a bound has to be kept for the loop to go on: it stands in no or. */
        private void lookAtEnd(ExpressionTree condition, Tree loop) {
            if (condition == null || !hasBound(condition)) {
                fault("rule 8: a loop without a bound", loop);
            }
        }

        private boolean hasBound(ExpressionTree condition) {
            ExpressionTree bare = condition;
            if (bare instanceof ParenthesizedTree inside) {
                bare = inside.getExpression();
            }
            if (!(bare instanceof BinaryTree both)) {
                return false;
            }
            if (both.getKind() == Kind.CONDITIONAL_AND) {
                return hasBound(both.getLeftOperand()) || hasBound(both.getRightOperand());
            }
            return List.of(Kind.LESS_THAN, Kind.LESS_THAN_EQUAL, Kind.GREATER_THAN,
                Kind.GREATER_THAN_EQUAL).contains(both.getKind());
        }
    }
}
