import com.sun.source.tree.ArrayTypeTree;
import com.sun.source.tree.BlockTree;
import com.sun.source.tree.ClassTree;
import com.sun.source.tree.CompilationUnitTree;
import com.sun.source.tree.ExpressionTree;
import com.sun.source.tree.ForLoopTree;
import com.sun.source.tree.IdentifierTree;
import com.sun.source.tree.LiteralTree;
import com.sun.source.tree.MemberSelectTree;
import com.sun.source.tree.MethodInvocationTree;
import com.sun.source.tree.MethodTree;
import com.sun.source.tree.NewArrayTree;
import com.sun.source.tree.PrimitiveTypeTree;
import com.sun.source.tree.Tree;
import com.sun.source.tree.TypeCastTree;
import com.sun.source.tree.VariableTree;
import com.sun.source.util.JavacTask;
import com.sun.source.util.SourcePositions;
import com.sun.source.util.TreeScanner;
import com.sun.source.util.Trees;
import java.io.IOException;
import java.nio.file.Path;
import java.util.EnumSet;
import java.util.HashMap;
import java.util.HashSet;
import java.util.Map;
import java.util.Set;
import java.util.TreeSet;
import javax.lang.model.element.Modifier;
import javax.lang.model.type.TypeKind;
import javax.tools.JavaCompiler;
import javax.tools.StandardJavaFileManager;
import javax.tools.ToolProvider;

/**
 * The source keeps to the rules of LANGUAGE.md, as far as they can be read off its form. Some are
 * held tighter than they stand there: arrays are made in fields' initialisers alone, and a loop is a
 * for with a counter that its body leaves alone. That no index is wrong (rule 7) is for the other tests.
 */
public final class LanguageTest {
    private static final Path SOURCE = Path.of("src/main/java/IncrementalLinker.java");
    private static final int MAX_PARAMETERS = 7;
    private static final int MAX_LINES = 60;
    private static final int MAX_DEPTH = 6;
    private static final int MAX_FIELDS = 40;
    private static int wrong = 0;

    public static void main(String[] args) throws IOException {
        JavaCompiler compiler = ToolProvider.getSystemJavaCompiler();
        try (StandardJavaFileManager files = compiler.getStandardFileManager(null, null, null)) {
            JavacTask task = (JavacTask) compiler.getTask(
                    null, files, null, null, null, files.getJavaFileObjects(SOURCE));
            for (CompilationUnitTree unit : task.parse()) {
                new Reader(unit, Trees.instance(task).getSourcePositions()).read();
            }
        }
        System.out.println(wrong == 0 ? "the rules are kept" : wrong + " breaches of the rules");
        if (wrong != 0) {
            System.exit(1);
        }
    }

    private static final class Reader extends TreeScanner<Void, Void> {
        private final CompilationUnitTree unit;
        private final SourcePositions positions;
        private final Map<String, Set<String>> calls = new HashMap<>();
        private final Set<String> constants = new HashSet<>();
        private final Set<Tree> arraysOfFields = new HashSet<>();
        private String method = "";
        private int argumentDepth = 0;

        Reader(CompilationUnitTree unit, SourcePositions positions) {
            this.unit = unit;
            this.positions = positions;
        }

        private long line(Tree tree) {
            return unit.getLineMap().getLineNumber(positions.getStartPosition(unit, tree));
        }

        private long lines(Tree tree) {
            return unit.getLineMap().getLineNumber(positions.getEndPosition(unit, tree)) - line(tree) + 1;
        }

        private void rule(int number, boolean holds, Tree at, String what) {
            if (!holds) {
                wrong++;
                System.out.println("rule " + number + ", line " + line(at) + ": " + what);
            }
        }

        void read() {
            rule(1, unit.getTypeDecls().size() == 1, unit, "one class");
            rule(1, unit.getPackage() == null, unit, "no package line");
            ClassTree type = (ClassTree) unit.getTypeDecls().get(0);
            Set<Modifier> modifiers = type.getModifiers().getFlags();
            rule(1, modifiers.equals(EnumSet.of(Modifier.PUBLIC, Modifier.FINAL)), type, "a public final class");
            rule(1, type.getExtendsClause() == null && type.getImplementsClause().isEmpty(), type, "a class by itself");
            readMembers(type);
            scan(unit, null);
            readCallGraph(type);
        }

        private void readMembers(ClassTree type) {
            int fields = 0;
            for (Tree member : type.getMembers()) {
                if (member instanceof VariableTree field) {
                    fields += field.getModifiers().getFlags().contains(Modifier.STATIC) ? 0 : 1;
                    readField(field);
                } else if (member instanceof MethodTree declared) {
                    boolean isNew = calls.put(declared.getName().toString(), new TreeSet<>()) == null;
                    rule(1, isNew, declared, "no two methods with one name");
                } else {
                    rule(member instanceof BlockTree ? 5 : 1, false, member, "fields and methods alone");
                }
            }
            rule(10, fields <= MAX_FIELDS, type, "at most " + MAX_FIELDS + " fields");
        }

        private void readField(VariableTree field) {
            Set<Modifier> modifiers = field.getModifiers().getFlags();
            boolean isArray = field.getType() instanceof ArrayTypeTree;
            if (modifiers.contains(Modifier.STATIC)) {
                TypeKind kind = isArray ? TypeKind.ARRAY : ((PrimitiveTypeTree) field.getType()).getPrimitiveTypeKind();
                rule(5, kind == TypeKind.INT || kind == TypeKind.LONG, field, "static fields of int or long");
                rule(5, modifiers.contains(Modifier.FINAL) && field.getInitializer() != null, field, "static constants");
                constants.add(field.getName().toString());
            } else if (isArray) {
                rule(4, modifiers.contains(Modifier.FINAL), field, "an array field is assigned once");
                rule(4, field.getInitializer() instanceof NewArrayTree, field, "an array made in its field");
                arraysOfFields.add(field.getInitializer());
            }
        }

        @Override
        public Void scan(Tree tree, Void unused) {
            int broken = tree == null ? 0 : ruleAgainst(tree.getKind());
            rule(broken, broken == 0, tree, "no " + (tree == null ? "" : tree.getKind()));
            return super.scan(tree, unused);
        }

        /** The rule that a thing breaks by being there at all; 0 if none. */
        private static int ruleAgainst(Tree.Kind kind) {
            return switch (kind) {
                case PACKAGE, INTERFACE, ENUM, RECORD, ANNOTATION_TYPE -> 1;
                case FLOAT_LITERAL, DOUBLE_LITERAL, STRING_LITERAL, PARAMETERIZED_TYPE -> 2;
                case IMPORT, ANNOTATION -> 3;
                case NEW_CLASS, NULL_LITERAL -> 4;
                case THROW, TRY, CATCH, SYNCHRONIZED, ASSERT, INSTANCE_OF, LAMBDA_EXPRESSION, MEMBER_REFERENCE -> 6;
                case WHILE_LOOP, DO_WHILE_LOOP, ENHANCED_FOR_LOOP -> 8;
                default -> 0;
            };
        }

        @Override
        public Void visitMethod(MethodTree declared, Void unused) {
            method = declared.getName().toString();
            rule(10, declared.getParameters().size() <= MAX_PARAMETERS, declared, "at most 7 parameters");
            rule(10, lines(declared) <= MAX_LINES, declared, "at most " + MAX_LINES + " lines");
            rule(4, !(declared.getReturnType() instanceof ArrayTypeTree), declared, "no array answered");
            if (declared.getReturnType() != null) {
                rule(2, declared.getReturnType() instanceof PrimitiveTypeTree, declared, "a primitive type");
            }
            super.visitMethod(declared, unused);
            method = "";
            return null;
        }

        @Override
        public Void visitVariable(VariableTree variable, Void unused) {
            Tree type = variable.getType();
            Tree element = type instanceof ArrayTypeTree array ? array.getType() : type;
            rule(2, element instanceof PrimitiveTypeTree, variable, "numbers, booleans and rows of them alone");
            return super.visitVariable(variable, unused);
        }

        @Override
        public Void visitPrimitiveType(PrimitiveTypeTree type, Void unused) {
            TypeKind kind = type.getPrimitiveTypeKind();
            rule(2, kind != TypeKind.FLOAT && kind != TypeKind.DOUBLE, type, "no float or double");
            return super.visitPrimitiveType(type, unused);
        }

        @Override
        public Void visitTypeCast(TypeCastTree cast, Void unused) {
            rule(6, cast.getType() instanceof PrimitiveTypeTree, cast, "no cast of a reference");
            return super.visitTypeCast(cast, unused);
        }

        @Override
        public Void visitNewArray(NewArrayTree made, Void unused) {
            rule(4, arraysOfFields.contains(made), made, "arrays made in fields' initialisers");
            rule(4, made.getInitializers() == null && made.getDimensions().size() == 1, made, "one length");
            for (ExpressionTree length : made.getDimensions()) {
                boolean isConstant = length instanceof LiteralTree
                        || length instanceof IdentifierTree name && constants.contains(name.getName().toString());
                rule(4, isConstant, made, "a length that is a literal or a constant");
            }
            return super.visitNewArray(made, unused);
        }

        @Override
        public Void visitMemberSelect(MemberSelectTree select, Void unused) {
            boolean isOwn = select.getIdentifier().contentEquals("length")
                    || select.getExpression().toString().equals("this");
            rule(3, isOwn, select, "nothing of another class: " + select);
            return super.visitMemberSelect(select, unused);
        }

        @Override
        public Void visitMethodInvocation(MethodInvocationTree call, Void unused) {
            String called = call.getMethodSelect().toString().replace("this.", "");
            // The parser gives a constructor the call of its super class that every constructor makes.
            if (!called.equals("super")) {
                rule(3, calls.containsKey(called), call, "no method of another class: " + called);
                rule(10, argumentDepth == 0, call, "no call inside the arguments of another");
                rule(5, !method.isEmpty(), call, "no call outside of the methods");
                calls.getOrDefault(method, new HashSet<>()).add(called);
            }
            argumentDepth++;
            scan(call.getArguments(), unused);
            argumentDepth--;
            return null;
        }

        @Override
        public Void visitForLoop(ForLoopTree loop, Void unused) {
            boolean isCounted = loop.getInitializer().size() == 1
                    && loop.getInitializer().get(0) instanceof VariableTree
                    && loop.getCondition() != null && loop.getUpdate().size() == 1;
            rule(8, isCounted, loop, "a loop with a counter and a bound");
            if (isCounted) {
                readCounter(loop, ((VariableTree) loop.getInitializer().get(0)).getName().toString());
            }
            return super.visitForLoop(loop, unused);
        }

        private void readCounter(ForLoopTree loop, String counter) {
            String condition = loop.getCondition().toString();
            String update = loop.getUpdate().get(0).toString();
            boolean up = condition.startsWith(counter + " <") && update.equals(counter + "++;");
            boolean down = condition.startsWith(counter + " >") && update.equals(counter + "--;");
            rule(8, up || down, loop, "a counter that goes to its bound: " + condition + ", " + update);
            String body = loop.getStatement().toString();
            boolean isChanged = body.matches("(?s).*\\b" + counter + "(\\+\\+|--| [-+*/%&|^<>]*= ).*")
                    || body.matches("(?s).*(\\+\\+|--)" + counter + "\\b.*");
            rule(8, !isChanged, loop, "a counter that the body leaves alone");
        }

        private void readCallGraph(ClassTree type) {
            for (String name : calls.keySet()) {
                int depth = depthFrom(name, new HashSet<>());
                rule(8, depth < Integer.MAX_VALUE, type, "no recursion, but from " + name);
                rule(10, depth <= MAX_DEPTH, type, "calls at most " + MAX_DEPTH + " deep, but from " + name);
            }
        }

        private int depthFrom(String name, Set<String> above) {
            if (!above.add(name)) {
                return Integer.MAX_VALUE;
            }
            int deepest = 0;
            for (String called : calls.getOrDefault(name, Set.of())) {
                deepest = Math.max(deepest, depthFrom(called, above));
            }
            above.remove(name);
            return deepest == Integer.MAX_VALUE ? deepest : deepest + 1;
        }
    }
}
