import com.sun.source.tree.ArrayTypeTree;
import com.sun.source.tree.AssignmentTree;
import com.sun.source.tree.BlockTree;
import com.sun.source.tree.ClassTree;
import com.sun.source.tree.CompilationUnitTree;
import com.sun.source.tree.DoWhileLoopTree;
import com.sun.source.tree.EnhancedForLoopTree;
import com.sun.source.tree.ExpressionTree;
import com.sun.source.tree.ForLoopTree;
import com.sun.source.tree.IdentifierTree;
import com.sun.source.tree.LiteralTree;
import com.sun.source.tree.MemberSelectTree;
import com.sun.source.tree.MethodInvocationTree;
import com.sun.source.tree.MethodTree;
import com.sun.source.tree.NewArrayTree;
import com.sun.source.tree.NewClassTree;
import com.sun.source.tree.PrimitiveTypeTree;
import com.sun.source.tree.Tree;
import com.sun.source.tree.TypeCastTree;
import com.sun.source.tree.VariableTree;
import com.sun.source.tree.WhileLoopTree;
import com.sun.source.util.JavacTask;
import com.sun.source.util.TreeScanner;
import com.sun.source.util.Trees;
import java.io.File;
import java.util.EnumSet;
import java.util.HashSet;
import java.util.Map;
import java.util.Set;
import java.util.TreeMap;
import java.util.TreeSet;
import javax.lang.model.element.Modifier;
import javax.lang.model.type.TypeKind;
import javax.tools.JavaCompiler;
import javax.tools.StandardJavaFileManager;
import javax.tools.ToolProvider;

/** The rules of LANGUAGE.md, by their numbers, looked up in the text of the class. */
public final class LanguageTest {
    private static final int MOST_PARAMETERS = 7, MOST_LINES = 60, MOST_DEPTH = 6, MOST_FIELDS = 40;
    private static final Set<Tree.Kind> RULED_OUT = EnumSet.of(Tree.Kind.THROW, Tree.Kind.TRY, Tree.Kind.SYNCHRONIZED,
        Tree.Kind.ASSERT, Tree.Kind.INSTANCE_OF, Tree.Kind.LAMBDA_EXPRESSION, Tree.Kind.MEMBER_REFERENCE);
    private static final Set<Tree.Kind> LITERALS = EnumSet.of(Tree.Kind.INT_LITERAL, Tree.Kind.LONG_LITERAL,
        Tree.Kind.CHAR_LITERAL, Tree.Kind.BOOLEAN_LITERAL);
    private static final Set<TypeKind> FRACTIONS = EnumSet.of(TypeKind.FLOAT, TypeKind.DOUBLE);

    private static final Map<String, Set<String>> CALLS = new TreeMap<>();
    private static final Set<String> CONSTANTS = new HashSet<>();
    private static final Set<String> ARRAYS = new HashSet<>();

    public static void main(String[] args) throws Exception {
        JavaCompiler compiler = ToolProvider.getSystemJavaCompiler();
        try (StandardJavaFileManager files = compiler.getStandardFileManager(null, null, null)) {
            JavacTask task = (JavacTask) compiler.getTask(null, files, null, null, null,
                files.getJavaFileObjects(new File("src/main/java/MillDesk.java")));
            CompilationUnitTree unit = task.parse().iterator().next();
            Due.yes("rule 1: no package line", unit.getPackage() == null);
            Due.is("rule 3: imports", unit.getImports().size(), 0);
            Due.is("rule 1: classes", unit.getTypeDecls().size(), 1);
            members(unit, (ClassTree) unit.getTypeDecls().get(0), Trees.instance(task));
        }
        depths();
        Due.end("LanguageTest");
    }

    private static void members(CompilationUnitTree unit, ClassTree type, Trees trees) {
        Due.yes("rule 2: nothing is extended", type.getExtendsClause() == null && type.getImplementsClause().isEmpty());
        int fields = 0;
        for (Tree member : type.getMembers()) {
            if (member instanceof MethodTree) {
                CALLS.put(((MethodTree) member).getName().toString(), new TreeSet<>());
            } else if (member instanceof VariableTree) {
                fields += field((VariableTree) member);
            } else {
                Due.no("rules 1 and 5: a member is a " + member.getKind(), true);
            }
        }
        Due.yes("rule 10: fields beside constants: " + fields, fields <= MOST_FIELDS);
        for (Tree member : type.getMembers()) {
            if (member instanceof MethodTree) method(unit, (MethodTree) member, trees);
        }
        for (Tree member : type.getMembers()) {
            String name = member instanceof MethodTree ? ((MethodTree) member).getName().toString() : "";
            new Rules(name).scan(member, null);
        }
    }

    private static int field(VariableTree field) {
        String name = field.getName().toString();
        if (field.getModifiers().getFlags().contains(Modifier.STATIC)) {
            boolean number = field.getType().toString().equals("int") || field.getType().toString().equals("long");
            boolean constant = field.getModifiers().getFlags().contains(Modifier.FINAL) && field.getInitializer() != null;
            Due.yes("rule 5: " + name + " is a constant number", number && constant);
            CONSTANTS.add(name);
            return 0;
        }
        if (field.getType() instanceof ArrayTypeTree) {
            Due.yes("rule 4: " + name + " is made where it is declared", field.getInitializer() instanceof NewArrayTree);
            ARRAYS.add(name);
        }
        return 1;
    }

    private static void method(CompilationUnitTree unit, MethodTree method, Trees trees) {
        String name = method.getName().toString();
        Due.yes("rule 10: parameters of " + name, method.getParameters().size() <= MOST_PARAMETERS);
        Due.no("rule 4: " + name + " answers an array", method.getReturnType() instanceof ArrayTypeTree);
        long from = trees.getSourcePositions().getStartPosition(unit, method);
        long to = trees.getSourcePositions().getEndPosition(unit, method);
        long lines = unit.getLineMap().getLineNumber(to) - unit.getLineMap().getLineNumber(from) + 1;
        Due.yes("rule 10: lines of " + name + ": " + lines, lines <= MOST_LINES);
    }

    private static void depths() {
        for (String name : CALLS.keySet()) {
            int depth = 0;
            Set<String> level = new TreeSet<>(Set.of(name));
            while (!level.isEmpty() && depth <= CALLS.size()) {
                depth++;
                Set<String> below = new TreeSet<>();
                for (String caller : level) {
                    below.addAll(CALLS.get(caller));
                }
                level = below;
            }
            Due.yes("rule 8: " + name + " leads back to no method above it", depth <= CALLS.size());
            Due.yes("rule 10: calls from " + name + " go " + depth + " deep", depth <= MOST_DEPTH);
        }
    }

    /** Goes through one member of the class. */
    private static final class Rules extends TreeScanner<Void, Void> {
        private final String method;

        Rules(String method) {
            this.method = method;
        }

        private String here() {
            return method.isEmpty() ? "a field" : method;
        }

        @Override
        public Void scan(Tree tree, Void none) {
            if (tree != null && RULED_OUT.contains(tree.getKind())) {
                Due.no("rule 6: " + tree.getKind() + " in " + here(), true);
            }
            return super.scan(tree, none);
        }

        @Override
        public Void visitBlock(BlockTree block, Void none) {
            Due.no("rule 5: a static initialiser", block.isStatic());
            return super.visitBlock(block, none);
        }

        @Override
        public Void visitClass(ClassTree type, Void none) {
            Due.no("rule 1: a class in " + here(), true);
            return super.visitClass(type, none);
        }

        @Override
        public Void visitVariable(VariableTree variable, Void none) {
            Tree type = variable.getType();
            if (type instanceof ArrayTypeTree) type = ((ArrayTypeTree) type).getType();
            Due.yes("rule 2: type of " + variable.getName() + " in " + here(), type instanceof PrimitiveTypeTree);
            return super.visitVariable(variable, none);
        }

        @Override
        public Void visitPrimitiveType(PrimitiveTypeTree type, Void none) {
            Due.no("rule 2: a fraction in " + here(), FRACTIONS.contains(type.getPrimitiveTypeKind()));
            return super.visitPrimitiveType(type, none);
        }

        @Override
        public Void visitLiteral(LiteralTree literal, Void none) {
            Due.yes("rules 2 and 4: literal " + literal + " in " + here(), LITERALS.contains(literal.getKind()));
            return super.visitLiteral(literal, none);
        }

        @Override
        public Void visitTypeCast(TypeCastTree cast, Void none) {
            Due.yes("rule 6: a cast in " + here(), cast.getType() instanceof PrimitiveTypeTree);
            return super.visitTypeCast(cast, none);
        }

        @Override
        public Void visitMemberSelect(MemberSelectTree select, Void none) {
            Due.yes("rule 3: " + select + " in " + here(), select.getIdentifier().contentEquals("length"));
            return super.visitMemberSelect(select, none);
        }

        @Override
        public Void visitNewClass(NewClassTree made, Void none) {
            Due.no("rules 3 and 4: an object made in " + here(), true);
            return super.visitNewClass(made, none);
        }

        @Override
        public Void visitNewArray(NewArrayTree made, Void none) {
            Due.yes("rule 4: an array made in " + here(), method.isEmpty());
            Due.is("rule 4: lengths of an array", made.getDimensions().size(), 1);
            for (ExpressionTree length : made.getDimensions()) {
                boolean constant = length instanceof IdentifierTree && CONSTANTS.contains(length.toString());
                Due.yes("rule 4: length " + length, constant || length.getKind() == Tree.Kind.INT_LITERAL);
            }
            return super.visitNewArray(made, none);
        }

        @Override
        public Void visitAssignment(AssignmentTree assignment, Void none) {
            Due.no("rule 4: an array field set in " + here(), ARRAYS.contains(assignment.getVariable().toString()));
            return super.visitAssignment(assignment, none);
        }

        @Override
        public Void visitMethodInvocation(MethodInvocationTree call, Void none) {
            String called = call.getMethodSelect().toString();
            // The text alone is read, so the call of Object's constructor that no text tells is not among these.
            Due.yes("rule 3: " + called + " called in " + here() + " is of the class", CALLS.containsKey(called));
            if (CALLS.containsKey(called) && !method.isEmpty()) CALLS.get(method).add(called);
            for (ExpressionTree argument : call.getArguments()) {
                new CallsInside(called).scan(argument, null);
            }
            return super.visitMethodInvocation(call, none);
        }

        @Override
        public Void visitForLoop(ForLoopTree loop, Void none) {
            boolean counted = loop.getCondition() != null && loop.getUpdate().size() == 1;
            Due.yes("rule 8: a counter and its bound in a loop of " + here(), counted);
            return super.visitForLoop(loop, none);
        }

        @Override
        public Void visitWhileLoop(WhileLoopTree loop, Void none) {
            Due.no("rule 8: a loop without a counter in " + here(), true);
            return super.visitWhileLoop(loop, none);
        }

        @Override
        public Void visitDoWhileLoop(DoWhileLoopTree loop, Void none) {
            Due.no("rule 8: a loop without a counter in " + here(), true);
            return super.visitDoWhileLoop(loop, none);
        }

        @Override
        public Void visitEnhancedForLoop(EnhancedForLoopTree loop, Void none) {
            Due.no("rule 8: a loop without a counter in " + here(), true);
            return super.visitEnhancedForLoop(loop, none);
        }
    }

    /** No call stands inside the arguments of another. */
    private static final class CallsInside extends TreeScanner<Void, Void> {
        private final String outer;

        CallsInside(String outer) {
            this.outer = outer;
        }

        @Override
        public Void visitMethodInvocation(MethodInvocationTree call, Void none) {
            Due.no("rule 10: " + call + " inside the arguments of " + outer, true);
            return super.visitMethodInvocation(call, none);
        }
    }
}
