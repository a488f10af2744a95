import com.sun.source.tree.ArrayAccessTree;
import com.sun.source.tree.ArrayTypeTree;
import com.sun.source.tree.AssignmentTree;
import com.sun.source.tree.ClassTree;
import com.sun.source.tree.CompilationUnitTree;
import com.sun.source.tree.CompoundAssignmentTree;
import com.sun.source.tree.ExpressionStatementTree;
import com.sun.source.tree.ForLoopTree;
import com.sun.source.tree.IdentifierTree;
import com.sun.source.tree.MemberSelectTree;
import com.sun.source.tree.MethodInvocationTree;
import com.sun.source.tree.MethodTree;
import com.sun.source.tree.ModifiersTree;
import com.sun.source.tree.NewArrayTree;
import com.sun.source.tree.PrimitiveTypeTree;
import com.sun.source.tree.Tree;
import com.sun.source.tree.Tree.Kind;
import com.sun.source.tree.TypeCastTree;
import com.sun.source.tree.UnaryTree;
import com.sun.source.tree.VariableTree;
import com.sun.source.util.JavacTask;
import com.sun.source.util.SourcePositions;
import com.sun.source.util.TreeScanner;
import com.sun.source.util.Trees;
import java.io.IOException;
import java.nio.file.Path;
import java.util.ArrayList;
import java.util.EnumSet;
import java.util.HashMap;
import java.util.HashSet;
import java.util.List;
import java.util.Map;
import java.util.Set;
import javax.lang.model.element.Modifier;
import javax.lang.model.type.TypeKind;
import javax.tools.JavaCompiler;
import javax.tools.StandardJavaFileManager;
import javax.tools.ToolProvider;

// The rules of LANGUAGE.md that can be read off the source; stricter than a rule where the class needs less than it
// allows. FaceTest has the rest of rule 1, and no source shows rule 7: there the other tests stand in.
public final class LanguageTest {
    private static final Path SOURCE = Path.of("src/main/java/TwinGraphs.java");

    /** Neither while nor do, whose ends are harder to see, and no division, whose divisor could be 0. */
    private static final Set<Kind> ALLOWED = EnumSet.of(
        Kind.COMPILATION_UNIT, Kind.CLASS, Kind.MODIFIERS, Kind.METHOD, Kind.VARIABLE, Kind.BLOCK,
        Kind.PRIMITIVE_TYPE, Kind.ARRAY_TYPE, Kind.IDENTIFIER, Kind.MEMBER_SELECT, Kind.ARRAY_ACCESS,
        Kind.METHOD_INVOCATION, Kind.NEW_ARRAY, Kind.TYPE_CAST, Kind.PARENTHESIZED, Kind.CONDITIONAL_EXPRESSION,
        Kind.EXPRESSION_STATEMENT, Kind.IF, Kind.FOR_LOOP, Kind.RETURN, Kind.BREAK, Kind.CONTINUE,
        Kind.INT_LITERAL, Kind.LONG_LITERAL, Kind.BOOLEAN_LITERAL, Kind.UNARY_MINUS, Kind.LOGICAL_COMPLEMENT,
        Kind.ASSIGNMENT, Kind.PLUS_ASSIGNMENT, Kind.MULTIPLY_ASSIGNMENT,
        Kind.POSTFIX_INCREMENT, Kind.POSTFIX_DECREMENT, Kind.PLUS, Kind.MINUS, Kind.MULTIPLY, Kind.AND,
        Kind.EQUAL_TO, Kind.NOT_EQUAL_TO, Kind.LESS_THAN, Kind.LESS_THAN_EQUAL, Kind.GREATER_THAN,
        Kind.GREATER_THAN_EQUAL, Kind.CONDITIONAL_AND, Kind.CONDITIONAL_OR);
    private static final Set<Kind> COMPARISONS = EnumSet.of(
        Kind.LESS_THAN, Kind.LESS_THAN_EQUAL, Kind.GREATER_THAN, Kind.GREATER_THAN_EQUAL);
    private static final Set<Kind> STEPS = EnumSet.of(Kind.POSTFIX_INCREMENT, Kind.POSTFIX_DECREMENT);
    private static final Set<Modifier> MODIFIERS = EnumSet.of(
        Modifier.PUBLIC, Modifier.PRIVATE, Modifier.STATIC, Modifier.FINAL);

    private final CompilationUnitTree unit;
    private final SourcePositions positions;
    private final ClassTree theClass;
    private final List<VariableTree> fields = new ArrayList<>();
    private final List<MethodTree> methods = new ArrayList<>();
    private final Set<String> arrays = new HashSet<>();
    private final Set<String> constants = new HashSet<>();
    private final Map<String, Set<String>> calls = new HashMap<>();

    public static void main(String[] args) throws IOException {
        LanguageTest test = new LanguageTest();
        Checks.sentence("Rule 1: one class", test::oneClass);
        Checks.sentence("Rule 2: types", test::types);
        Checks.sentence("Rule 3: no class of the Java library", test::nothingFromTheLibrary);
        Checks.sentence("Rule 4: arrays", test::arraysAreMadeInFields);
        Checks.sentence("Rule 5: static fields", test::staticFields);
        Checks.sentence("Rules 6 and 9: which parts of Java", test::allowedParts);
        Checks.sentence("Rule 8: no recursion", test::noRecursion);
        Checks.sentence("Rule 8: every loop has an end", test::loopsEnd);
        Checks.sentence("Rule 10: sizes", test::sizes);
        Checks.sentence("Rule 10: no call inside the arguments of another", test::noCallInsideACall);
        Checks.end();
    }

    private LanguageTest() throws IOException {
        JavaCompiler compiler = ToolProvider.getSystemJavaCompiler();
        StandardJavaFileManager files = compiler.getStandardFileManager(null, null, null);
        JavacTask task = (JavacTask) compiler.getTask(null, files, null, null, null, files.getJavaFileObjects(SOURCE));
        unit = task.parse().iterator().next();
        positions = Trees.instance(task).getSourcePositions();
        theClass = (ClassTree) unit.getTypeDecls().get(0);
        for (Tree member : theClass.getMembers()) {
            if (member instanceof VariableTree field) {
                addField(field);
            } else if (member instanceof MethodTree method) {
                addMethod(method);
            }
        }
    }

    private void addField(VariableTree field) {
        fields.add(field);
        if (field.getType() instanceof ArrayTypeTree) {
            arrays.add(field.getName().toString());
        }
        if (isStatic(field)) {
            constants.add(field.getName().toString());
        }
    }

    private void addMethod(MethodTree method) {
        methods.add(method);
        Set<String> called = calls.computeIfAbsent(method.getName().toString(), name -> new HashSet<>());
        for (MethodInvocationTree call : all(MethodInvocationTree.class, method)) {
            called.add(call.getMethodSelect().toString());
        }
    }

    private static boolean isStatic(VariableTree field) {
        return field.getModifiers().getFlags().contains(Modifier.STATIC);
    }

    private static boolean isFinal(VariableTree field) {
        return field.getModifiers().getFlags().contains(Modifier.FINAL);
    }

    private static <T extends Tree> List<T> all(Class<T> kind, Tree root) {
        List<T> found = new ArrayList<>();
        new TreeScanner<Void, Void>() {
            @Override
            public Void scan(Tree tree, Void nothing) {
                if (kind.isInstance(tree)) {
                    found.add(kind.cast(tree));
                }
                return super.scan(tree, nothing);
            }
        }.scan(root, null);
        return found;
    }

    private static Set<String> namesIn(Tree root) {
        Set<String> names = new HashSet<>();
        for (IdentifierTree name : all(IdentifierTree.class, root)) {
            names.add(name.getName().toString());
        }
        return names;
    }

    private void oneClass() {
        Checks.holds("no package line", unit.getPackage() == null);
        Checks.holds("no import", unit.getImports().isEmpty());
        Checks.holds("one type in the file", unit.getTypeDecls().size() == 1);
        Checks.holds("no class inside the class", all(ClassTree.class, theClass).size() == 1);
        Checks.holds("no parent and no interface",
            theClass.getExtendsClause() == null && theClass.getImplementsClause().isEmpty());
        Checks.holds("no member but fields and methods",
            theClass.getMembers().size() == fields.size() + methods.size());
    }

    private void types() {
        for (PrimitiveTypeTree type : all(PrimitiveTypeTree.class, theClass)) {
            TypeKind kind = type.getPrimitiveTypeKind();
            Checks.holds(type + " is none of the types", kind != TypeKind.FLOAT && kind != TypeKind.DOUBLE);
        }
        for (ArrayTypeTree type : all(ArrayTypeTree.class, theClass)) {
            Checks.holds(type + " has one dimension of numbers", type.getType() instanceof PrimitiveTypeTree);
        }
        for (VariableTree variable : all(VariableTree.class, theClass)) {
            Tree type = variable.getType();
            boolean isArrayField = fields.contains(variable) && type instanceof ArrayTypeTree;
            Checks.holds("the type of " + variable, type instanceof PrimitiveTypeTree || isArrayField);
        }
        for (MethodTree method : methods) {
            Tree type = method.getReturnType();
            Checks.holds("what " + method.getName() + " answers", type == null || type instanceof PrimitiveTypeTree);
        }
        for (TypeCastTree cast : all(TypeCastTree.class, theClass)) {
            Checks.holds("the cast " + cast, cast.getType() instanceof PrimitiveTypeTree);
        }
    }

    private void nothingFromTheLibrary() {
        Set<String> own = new HashSet<>(calls.keySet());
        own.add("this");
        for (VariableTree variable : all(VariableTree.class, theClass)) {
            own.add(variable.getName().toString());
        }
        for (String name : namesIn(theClass)) {
            Checks.holds("the name " + name + " is the class's own", own.contains(name));
        }
        List<MemberSelectTree> selections = all(MemberSelectTree.class, theClass);
        for (MemberSelectTree selection : selections) {
            Checks.holds(selection + " is a field", selection.getExpression().toString().equals("this"));
        }
        long selves = all(IdentifierTree.class, theClass).stream()
            .filter(name -> name.getName().contentEquals("this")).count();
        Checks.due("uses of this beside its fields", selves - selections.size(), 0);
        for (MethodInvocationTree call : all(MethodInvocationTree.class, theClass)) {
            Checks.holds(call + " calls the class itself", calls.containsKey(call.getMethodSelect().toString()));
        }
    }

    private void arraysAreMadeInFields() {
        int madeInFields = 0;
        for (VariableTree field : fields) {
            if (field.getInitializer() instanceof NewArrayTree made) {
                madeInFields++;
                Checks.holds(field + " has a length", made.getInitializers() == null);
                Checks.holds(field + " has a constant length", made.getDimensions().size() == 1
                    && constants.containsAll(namesIn(made.getDimensions().get(0))));
            }
            boolean isArray = arrays.contains(field.getName().toString());
            Checks.holds(field + " stays the same array", !isArray || isFinal(field) && !isStatic(field));
        }
        Checks.due("arrays made", all(NewArrayTree.class, theClass).size(), madeInFields);
        Checks.due("array fields", arrays.size(), madeInFields);
        long named = all(IdentifierTree.class, theClass).stream()
            .filter(name -> arrays.contains(name.getName().toString())).count();
        long looked = all(ArrayAccessTree.class, theClass).stream()
            .filter(access -> arrays.contains(access.getExpression().toString())).count();
        Checks.due("uses of an array beside its places", named - looked, 0);
    }

    private void staticFields() {
        for (VariableTree field : fields) {
            if (isStatic(field)) {
                String type = field.getType().toString();
                Checks.holds(field + " is a number", type.equals("int") || type.equals("long"));
                Checks.holds(field + " is a constant", isFinal(field) && field.getInitializer() != null
                    && constants.containsAll(namesIn(field.getInitializer()))
                    && all(MethodInvocationTree.class, field).isEmpty());
            }
        }
    }

    private void allowedParts() {
        for (Tree tree : all(Tree.class, unit)) {
            Checks.holds(tree.getKind() + " is allowed: " + tree, ALLOWED.contains(tree.getKind()));
        }
        for (ModifiersTree modifiers : all(ModifiersTree.class, theClass)) {
            Checks.holds("the modifiers " + modifiers.getFlags(), MODIFIERS.containsAll(modifiers.getFlags()));
            Checks.holds("no annotation", modifiers.getAnnotations().isEmpty());
        }
    }

    /** How many calls deep it goes from here, this one counted; a method met again on its own path counts as endless. */
    private int depth(String method, List<String> path) {
        if (path.contains(method)) {
            return 1_000;
        }
        List<String> longer = new ArrayList<>(path);
        longer.add(method);
        int deepest = 0;
        for (String called : calls.getOrDefault(method, Set.of())) {
            deepest = Math.max(deepest, depth(called, longer));
        }
        return deepest + 1;
    }

    private void noRecursion() {
        for (String method : calls.keySet()) {
            Checks.holds(method + " never comes back to itself", depth(method, List.of()) < 1_000);
        }
    }

    private void loopsEnd() {
        for (ForLoopTree loop : all(ForLoopTree.class, theClass)) {
            String head = "for (...; " + loop.getCondition() + "; " + loop.getUpdate() + ")";
            Checks.holds(head + " has a bound", loop.getCondition() != null
                && COMPARISONS.contains(loop.getCondition().getKind()));
            Set<String> looked = namesIn(loop.getCondition());
            Checks.holds(head + " goes on", !loop.getUpdate().isEmpty());
            for (ExpressionStatementTree update : loop.getUpdate()) {
                Checks.holds(head + " counts", STEPS.contains(update.getExpression().getKind())
                    && looked.containsAll(namesIn(update)));
            }
            looked.retainAll(changedIn(loop.getStatement()));
            Checks.same(head + ", changed inside", looked.toString(), "[]");
        }
    }

    private static Set<String> changedIn(Tree body) {
        Set<String> changed = new HashSet<>();
        for (AssignmentTree change : all(AssignmentTree.class, body)) {
            changed.add(change.getVariable().toString());
        }
        for (CompoundAssignmentTree change : all(CompoundAssignmentTree.class, body)) {
            changed.add(change.getVariable().toString());
        }
        for (UnaryTree change : all(UnaryTree.class, body)) {
            if (STEPS.contains(change.getKind())) {
                changed.add(change.getExpression().toString());
            }
        }
        return changed;
    }

    private void sizes() {
        Checks.holds("at most 40 fields beside the constants", fields.size() - constants.size() <= 40);
        for (MethodTree method : methods) {
            long first = unit.getLineMap().getLineNumber(positions.getStartPosition(unit, method));
            long last = unit.getLineMap().getLineNumber(positions.getEndPosition(unit, method));
            Checks.holds(method.getName() + " has at most 60 lines", last - first < 60);
            Checks.holds(method.getName() + " has at most 7 parameters", method.getParameters().size() <= 7);
            Checks.holds(method.getName() + " calls at most six deep", depth(method.getName().toString(), List.of()) <= 6);
        }
    }

    private void noCallInsideACall() {
        for (MethodInvocationTree call : all(MethodInvocationTree.class, theClass)) {
            Checks.due("calls in " + call, all(MethodInvocationTree.class, call).size(), 1);
        }
    }
}
