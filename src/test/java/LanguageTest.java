import com.sun.source.tree.ArrayTypeTree;
import com.sun.source.tree.ClassTree;
import com.sun.source.tree.CompilationUnitTree;
import com.sun.source.tree.ExpressionTree;
import com.sun.source.tree.ForLoopTree;
import com.sun.source.tree.IdentifierTree;
import com.sun.source.tree.LiteralTree;
import com.sun.source.tree.MemberSelectTree;
import com.sun.source.tree.MethodInvocationTree;
import com.sun.source.tree.MethodTree;
import com.sun.source.tree.NewArrayTree;
import com.sun.source.tree.PrimitiveTypeTree;
import com.sun.source.tree.Tree;
import com.sun.source.tree.Tree.Kind;
import com.sun.source.tree.TypeCastTree;
import com.sun.source.tree.VariableTree;
import com.sun.source.util.JavacTask;
import com.sun.source.util.SourcePositions;
import com.sun.source.util.TreeScanner;
import com.sun.source.util.Trees;
import java.io.IOException;
import java.nio.file.Path;
import java.util.EnumSet;
import java.util.HashMap;
import java.util.HashSet;
import java.util.Map;
import java.util.Set;
import java.util.TreeSet;
import javax.lang.model.element.Modifier;
import javax.lang.model.type.TypeKind;
import javax.tools.JavaCompiler;
import javax.tools.ToolProvider;

/**
 * The rules of LANGUAGE.md that show in the source of the class, read from the compiler's own tree of it. Where a rule
 * leaves a choice, the plainer one is asked for: arrays are made in final fields, and every loop is a counting for.
 */
public final class LanguageTest {
    private static final Path SOURCE = Path.of("src/main/java/RollbackGame.java");
    private static final int MOST_LINES = 60;
    private static final int MOST_CALLS_DEEP = 6;
    private static final int MOST_FIELDS = 40;

    private static final Set<TypeKind> NUMBERS = EnumSet.of(TypeKind.INT, TypeKind.LONG, TypeKind.SHORT, TypeKind.BYTE,
        TypeKind.CHAR, TypeKind.BOOLEAN);
    private static final Set<Kind> LITERALS = EnumSet.of(Kind.INT_LITERAL, Kind.LONG_LITERAL, Kind.CHAR_LITERAL,
        Kind.BOOLEAN_LITERAL);
    private static final Set<Kind> RULED_OUT = EnumSet.of(Kind.THROW, Kind.TRY, Kind.SYNCHRONIZED, Kind.ASSERT,
        Kind.INSTANCE_OF, Kind.LAMBDA_EXPRESSION, Kind.MEMBER_REFERENCE, Kind.NEW_CLASS, Kind.ANNOTATION);
    private static final Set<Kind> OTHER_LOOPS = EnumSet.of(Kind.ENHANCED_FOR_LOOP, Kind.WHILE_LOOP, Kind.DO_WHILE_LOOP);

    private static final Map<String, MethodTree> methods = new HashMap<>();
    private static final Map<String, Set<String>> calls = new HashMap<>();
    private static final Set<String> constants = new HashSet<>();
    private static CompilationUnitTree unit;
    private static SourcePositions positions;

    public static void main(String[] args) throws IOException {
        parse();
        ClassTree type = onlyClass();
        membersAreFieldsAndMethods(type);
        unit.accept(new Reader(), null);
        noMethodIsLong();
        callsEnd();
        Check.end();
    }

    private static void parse() throws IOException {
        JavaCompiler compiler = ToolProvider.getSystemJavaCompiler();
        var files = compiler.getStandardFileManager(null, null, null);
        var task = (JavacTask) compiler.getTask(null, files, null, null, null, files.getJavaFileObjects(SOURCE));
        unit = task.parse().iterator().next();
        positions = Trees.instance(task).getSourcePositions();
    }

    private static void rule(int number, String what, Tree where, boolean kept) {
        long line = unit.getLineMap().getLineNumber(positions.getStartPosition(unit, where));
        Check.due("rule " + number + ", line " + line + ": " + what, kept, true);
    }

    private static ClassTree onlyClass() {
        rule(1, "no package line", unit, unit.getPackage() == null);
        rule(3, "nothing is imported", unit, unit.getImports().isEmpty());
        rule(1, "one class", unit, unit.getTypeDecls().size() == 1);
        ClassTree type = (ClassTree) unit.getTypeDecls().get(0);
        rule(1, "a class", type, type.getKind() == Kind.CLASS);
        rule(3, "no class is extended", type, type.getExtendsClause() == null && type.getImplementsClause().isEmpty());
        return type;
    }

    private static void membersAreFieldsAndMethods(ClassTree type) {
        int fields = 0;
        for (Tree member : type.getMembers()) {
            rule(1, "a field or a method, no initialiser and no class", member, member instanceof VariableTree || member instanceof MethodTree);
            if (member instanceof VariableTree field) {
                fields += fieldCounts(field);
            }
            if (member instanceof MethodTree method) {
                String name = method.getName().toString();
                rule(1, name + " bears a name of its own", method, methods.put(name, method) == null);
                calls.put(name, new TreeSet<>());
            }
        }
        rule(10, "at most forty fields", type, fields <= MOST_FIELDS);
    }

    private static int fieldCounts(VariableTree field) {
        Set<Modifier> modifiers = field.getModifiers().getFlags();
        if (modifiers.contains(Modifier.STATIC)) {
            constants.add(field.getName().toString());
            ExpressionTree value = field.getInitializer();
            // javac reads -1 as a minus before a literal.
            boolean literal = value != null && (value.getKind() == Kind.UNARY_MINUS || value instanceof LiteralTree);
            rule(5, field.getName() + " is a constant", field, modifiers.contains(Modifier.FINAL) && literal);
            return 0;
        }
        rule(4, field.getName() + " is set in no method if it is an array", field,
            !(field.getType() instanceof ArrayTypeTree) || modifiers.contains(Modifier.FINAL));
        return 1;
    }

    private static void noMethodIsLong() {
        for (MethodTree method : methods.values()) {
            long first = unit.getLineMap().getLineNumber(positions.getStartPosition(unit, method));
            long last = unit.getLineMap().getLineNumber(positions.getEndPosition(unit, method));
            rule(10, method.getName() + " is short", method, last - first < MOST_LINES);
        }
    }

    /** A method that calls itself, by whatever way, has no depth: it goes on past any bound. */
    private static void callsEnd() {
        for (String name : methods.keySet()) {
            Set<String> level = Set.of(name);
            int depth = 0;
            while (!level.isEmpty() && depth <= methods.size()) {
                Set<String> next = new HashSet<>();
                level.forEach(caller -> next.addAll(calls.getOrDefault(caller, Set.of())));
                level = next;
                depth++;
            }
            rule(8, name + " does not come back to itself", methods.get(name), level.isEmpty());
            rule(10, name + " goes at most six deep", methods.get(name), depth <= MOST_CALLS_DEEP);
        }
    }

    /** Goes through the whole source and holds each piece of it to the rules. */
    private static final class Reader extends TreeScanner<Void, Void> {
        private String method = null;
        private boolean inArguments = false;

        @Override
        public Void scan(Tree tree, Void unused) {
            if (tree != null) {
                rule(6, tree.getKind() + " is not used", tree, !RULED_OUT.contains(tree.getKind()));
                rule(8, tree.getKind() + " is not used", tree, !OTHER_LOOPS.contains(tree.getKind()));
            }
            return super.scan(tree, unused);
        }

        @Override
        public Void visitMethod(MethodTree tree, Void unused) {
            method = tree.getName().toString();
            boolean constructor = tree.getReturnType() == null;
            rule(2, method + " answers a number", tree, constructor || answersPlainly(tree.getReturnType()));
            super.visitMethod(tree, unused);
            method = null;
            return null;
        }

        private static boolean answersPlainly(Tree type) {
            return type instanceof PrimitiveTypeTree plain
                && (plain.getPrimitiveTypeKind() == TypeKind.VOID || NUMBERS.contains(plain.getPrimitiveTypeKind()));
        }

        @Override
        public Void visitVariable(VariableTree tree, Void unused) {
            Tree type = tree.getType();
            Tree plain = type instanceof ArrayTypeTree array ? array.getType() : type;
            rule(2, tree.getName() + " is a number or a flat array", tree, plain instanceof PrimitiveTypeTree number
                && NUMBERS.contains(number.getPrimitiveTypeKind()));
            return super.visitVariable(tree, unused);
        }

        @Override
        public Void visitTypeCast(TypeCastTree tree, Void unused) {
            rule(6, "a cast is to a number", tree, tree.getType() instanceof PrimitiveTypeTree number
                && NUMBERS.contains(number.getPrimitiveTypeKind()));
            return super.visitTypeCast(tree, unused);
        }

        @Override
        public Void visitLiteral(LiteralTree tree, Void unused) {
            rule(2, tree.getKind() + " is a number", tree, LITERALS.contains(tree.getKind()));
            return super.visitLiteral(tree, unused);
        }

        @Override
        public Void visitNewArray(NewArrayTree tree, Void unused) {
            rule(4, "no array is made in a method", tree, method == null);
            boolean flat = tree.getDimensions().size() == 1 && tree.getInitializers() == null;
            rule(4, "the array's length is a literal or a constant", tree, flat && isLength(tree.getDimensions().get(0)));
            return super.visitNewArray(tree, unused);
        }

        private static boolean isLength(ExpressionTree length) {
            if (length instanceof LiteralTree literal) {
                return literal.getValue() instanceof Integer value && value >= 1;
            }
            return length instanceof IdentifierTree name && constants.contains(name.getName().toString());
        }

        @Override
        public Void visitMemberSelect(MemberSelectTree tree, Void unused) {
            rule(3, tree + " is of no other class", tree, tree.getIdentifier().contentEquals("length"));
            return super.visitMemberSelect(tree, unused);
        }

        @Override
        public Void visitMethodInvocation(MethodInvocationTree tree, Void unused) {
            String called = tree.getMethodSelect().toString();
            // The compiler's tree may hold the call of super() that it adds to a constructor.
            boolean added = called.equals("super") && tree.getArguments().isEmpty();
            rule(3, called + " is a method of the class", tree, added || methods.containsKey(called));
            rule(10, called + " is not called in another's arguments", tree, !inArguments);
            rule(4, called + " is not called in a field's initialiser", tree, method != null);
            if (!added && method != null) {
                calls.get(method).add(called);
            }
            boolean before = inArguments;
            inArguments = true;
            scan(tree.getArguments(), unused);
            inArguments = before;
            return null;
        }

        @Override
        public Void visitForLoop(ForLoopTree tree, Void unused) {
            boolean one = tree.getInitializer().size() == 1 && tree.getUpdate().size() == 1;
            boolean counts = one && tree.getInitializer().get(0) instanceof VariableTree counter
                && countsAgainstBound(counter.getName().toString(), tree.getCondition() + "; " + tree.getUpdate().get(0));
            rule(8, "the loop counts against a bound", tree, counts);
            return super.visitForLoop(tree, unused);
        }

        private static boolean countsAgainstBound(String counter, String conditionAndUpdate) {
            return conditionAndUpdate.matches(counter + " <=? \\w+; " + counter + "\\+\\+;?")
                || conditionAndUpdate.matches(counter + " >=? \\w+; " + counter + "--;?");
        }
    }
}
