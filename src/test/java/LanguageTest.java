import com.sun.source.tree.*;
import com.sun.source.util.JavacTask;
import com.sun.source.util.TreeScanner;
import java.nio.file.Files;
import java.nio.file.Path;
import java.util.*;
import java.util.stream.Collectors;
import javax.lang.model.element.Modifier;
import javax.lang.model.type.TypeKind;
import javax.tools.JavaCompiler;
import javax.tools.StandardJavaFileManager;
import javax.tools.ToolProvider;

/**
 * The rules of LANGUAGE.md that can be seen in the source's tree. Rule 7 (nothing throws) and whether each loop's
 * bound is the right one (rule 8) can't; the other tests call with every kind of argument for these. At some places
 * it asks for more than the rules do, where the class has no need of what they leave: so the tests stay plain.
 */
public final class LanguageTest {
    private static final Path SOURCE = Path.of("src/main/java/RasterRules.java");
    private static final Set<Tree.Kind> NEVER = EnumSet.of(
        Tree.Kind.THROW, Tree.Kind.TRY, Tree.Kind.CATCH, Tree.Kind.SYNCHRONIZED, Tree.Kind.ASSERT, Tree.Kind.INSTANCE_OF,
        Tree.Kind.LAMBDA_EXPRESSION, Tree.Kind.MEMBER_REFERENCE, Tree.Kind.NEW_CLASS, Tree.Kind.NULL_LITERAL,
        Tree.Kind.STRING_LITERAL, Tree.Kind.FLOAT_LITERAL, Tree.Kind.DOUBLE_LITERAL, Tree.Kind.ENHANCED_FOR_LOOP,
        Tree.Kind.MEMBER_SELECT, Tree.Kind.ANNOTATION, Tree.Kind.PARAMETERIZED_TYPE);
    private static final Set<TypeKind> NUMBERS = EnumSet.of(
        TypeKind.INT, TypeKind.LONG, TypeKind.SHORT, TypeKind.BYTE, TypeKind.CHAR, TypeKind.BOOLEAN);

    public static void main(String[] args) throws Exception {
        CompilationUnitTree unit = parsed();
        ClassTree type = (ClassTree) unit.getTypeDecls().get(0);
        String[] lines = Files.readString(SOURCE).split("\n");
        Check check = new Check("Language");
        check.sentence("1. One class", it -> oneClass(it, unit, type));
        check.sentence("2. Types", it -> types(it, type));
        check.sentence("3. No class of the Java library, and 6. No throw, try, catch", it -> never(it, type));
        check.sentence("4. Arrays are made in a field's initialiser", it -> arrays(it, type));
        check.sentence("5. Static fields are compile-time constants of int or long alone", it -> constants(it, type));
        check.sentence("8. No recursion, and 10. calls go at most six deep", it -> calls(it, type));
        check.sentence("8. Every loop has an end that can be seen from its own lines", it -> loops(it, type));
        check.sentence("10. at most seven parameters, and some forty fields", it -> sizes(it, type));
        check.sentence("10. no call stands inside the arguments of another call", it -> arguments(it, type));
        check.sentence("10. Methods stay short (some sixty lines)", it -> lengths(it, lines));
        check.end();
    }

    private static CompilationUnitTree parsed() throws Exception {
        JavaCompiler compiler = ToolProvider.getSystemJavaCompiler();
        try (StandardJavaFileManager files = compiler.getStandardFileManager(null, null, null)) {
            JavacTask task = (JavacTask) compiler.getTask(null, files, null, null, null, files.getJavaFileObjects(SOURCE));
            return task.parse().iterator().next();
        }
    }

    private static void oneClass(Check check, CompilationUnitTree unit, ClassTree type) {
        check.due("package lines", unit.getPackageName() == null, true);
        check.due("imports", unit.getImports().size(), 0);
        check.due("types", unit.getTypeDecls().size(), 1);
        check.due("a class", type.getKind() == Tree.Kind.CLASS, true);
        for (Tree member : type.getMembers()) {
            check.due("member " + member, member instanceof MethodTree || member instanceof VariableTree, true);
        }
        // So a name alone tells which method is called.
        Set<String> names = new HashSet<>();
        for (MethodTree method : methods(type)) {
            check.due("one method of the name " + method.getName(), names.add(method.getName().toString()), true);
        }
    }

    private static void types(Check check, ClassTree type) {
        for (VariableTree variable : all(type, VariableTree.class)) {
            check.due("type of " + variable, isNumber(variable.getType()) || isArray(variable.getType()), true);
        }
        for (MethodTree method : methods(type)) {
            Tree answer = method.getReturnType();
            boolean none = answer == null || answer.toString().equals("void");
            check.due("answer of " + method.getName(), none || isNumber(answer), true);
        }
        for (TypeCastTree cast : all(type, TypeCastTree.class)) {
            check.due("cast " + cast, isNumber(cast.getType()), true);
        }
    }

    private static boolean isNumber(Tree type) {
        return type instanceof PrimitiveTypeTree
            && NUMBERS.contains(((PrimitiveTypeTree) type).getPrimitiveTypeKind());
    }

    private static boolean isArray(Tree type) {
        return type instanceof ArrayTypeTree && isNumber(((ArrayTypeTree) type).getType());
    }

    /** No dot at all stands in the code, so nothing of another class is named. */
    private static void never(Check check, ClassTree type) {
        for (Tree tree : all(type, Tree.class)) {
            check.due(tree.getKind() + " " + tree, NEVER.contains(tree.getKind()), false);
        }
    }

    private static void arrays(Check check, ClassTree type) {
        Set<Tree> made = new HashSet<>();
        for (VariableTree field : fields(type)) {
            if (isArray(field.getType())) {
                check.due("made at the start: " + field, field.getInitializer() instanceof NewArrayTree, true);
                check.due("stays: " + field, field.getModifiers().getFlags().contains(Modifier.FINAL), true);
                made.add(field.getInitializer());
            }
        }
        for (NewArrayTree array : all(type, NewArrayTree.class)) {
            check.due("in a field's initialiser: " + array, made.contains(array), true);
            check.due("of one dimension: " + array, array.getDimensions().size(), 1);
            Tree length = array.getDimensions().get(0);
            check.due("length of " + array, isConstant(length, type), true);
        }
    }

    private static boolean isConstant(Tree length, ClassTree type) {
        return length.getKind() == Tree.Kind.INT_LITERAL || fields(type).stream().anyMatch(
            field -> isStatic(field) && field.getName().contentEquals(length.toString()));
    }

    private static void constants(Check check, ClassTree type) {
        for (VariableTree field : fields(type)) {
            if (isStatic(field)) {
                String kind = field.getType().toString();
                check.due("type of " + field, kind.equals("int") || kind.equals("long"), true);
                check.due("final " + field, field.getModifiers().getFlags().contains(Modifier.FINAL), true);
                check.due("no call in " + field, all(field, MethodInvocationTree.class).size(), 0);
            }
        }
    }

    private static boolean isStatic(VariableTree field) {
        return field.getModifiers().getFlags().contains(Modifier.STATIC);
    }

    /** Takes away, again and again, the methods that call none of those left: a method is as deep as its round. */
    private static void calls(Check check, ClassTree type) {
        Map<String, Set<String>> left = new TreeMap<>();
        for (MethodTree method : methods(type)) {
            left.put(method.getName().toString(), all(method, MethodInvocationTree.class).stream()
                .map(call -> call.getMethodSelect().toString())
                .filter(name -> !name.equals("super")).collect(Collectors.toSet()));
        }
        Set<String> known = Set.copyOf(left.keySet());
        left.forEach((name, called) -> check.due(name + " calls the class's own methods " + called, known.containsAll(called), true));
        int rounds = 0;
        while (!left.isEmpty() && rounds < 6) {
            Set<String> before = Set.copyOf(left.keySet());
            left.values().removeIf(called -> called.stream().noneMatch(before::contains));
            rounds++;
        }
        check.due("recursive, or called through more than six: " + left.keySet(), left.size(), 0);
    }

    /** A counter goes up by 1 to a bound, and nothing else in the loop's lines changes either of them. */
    private static void loops(Check check, ClassTree type) {
        check.due("do loops", all(type, DoWhileLoopTree.class).size(), 0);
        for (ForLoopTree loop : all(type, ForLoopTree.class)) {
            String counter = ((VariableTree) loop.getInitializer().get(0)).getName().toString();
            check.due("one step: " + loop, loop.getUpdate().size(), 1);
            check.due("a step of 1: " + loop, loop.getUpdate().get(0).toString().equals(counter + "++;"), true);
            check.due("a bound: " + loop, hasBound(loop.getCondition(), counter, loop.getStatement(), type), true);
            check.due("no other step: " + loop, changes(loop.getStatement(), counter), false);
        }
        for (WhileLoopTree loop : all(type, WhileLoopTree.class)) {
            String body = loop.getStatement().toString().replaceAll("\\s", "");
            String counter = body.replaceAll("[^a-z]", "");
            check.due("a step of 1 alone: " + loop, body.equals("{" + counter + "++;}"), true);
            check.due("a bound: " + loop, hasBound(loop.getCondition(), counter, loop.getStatement(), type), true);
        }
    }

    private static boolean hasBound(ExpressionTree condition, String counter, Tree body, ClassTree type) {
        if (condition instanceof ParenthesizedTree) {
            return hasBound(((ParenthesizedTree) condition).getExpression(), counter, body, type);
        }
        if (!(condition instanceof BinaryTree)) {
            return false;
        }
        BinaryTree two = (BinaryTree) condition;
        if (two.getKind() == Tree.Kind.CONDITIONAL_AND) {
            return hasBound(two.getLeftOperand(), counter, body, type) || hasBound(two.getRightOperand(), counter, body, type);
        }
        boolean compared = two.getKind() == Tree.Kind.LESS_THAN || two.getKind() == Tree.Kind.LESS_THAN_EQUAL;
        return compared && two.getLeftOperand().toString().equals(counter) && isFixed(two.getRightOperand(), body, type);
    }

    /** A constant, or a local variable that the loop does not change; a field could be changed by a method that it calls. */
    private static boolean isFixed(ExpressionTree bound, Tree body, ClassTree type) {
        boolean field = fields(type).stream().anyMatch(it -> !isStatic(it) && it.getName().contentEquals(bound.toString()));
        return bound instanceof IdentifierTree && !field && !changes(body, bound.toString());
    }

    private static boolean changes(Tree tree, String name) {
        return all(tree, AssignmentTree.class).stream().anyMatch(it -> it.getVariable().toString().equals(name))
            || all(tree, CompoundAssignmentTree.class).stream().anyMatch(it -> it.getVariable().toString().equals(name))
            || all(tree, UnaryTree.class).stream().anyMatch(it -> it.toString().matches("(\\+\\+|--)?" + name + "(\\+\\+|--)?"));
    }

    private static void sizes(Check check, ClassTree type) {
        for (MethodTree method : methods(type)) {
            check.due("parameters of " + method.getName(), method.getParameters().size() <= 7, true);
        }
        check.due("fields", fields(type).stream().filter(field -> !isStatic(field)).count() <= 40, true);
    }

    private static void arguments(Check check, ClassTree type) {
        for (MethodInvocationTree call : all(type, MethodInvocationTree.class)) {
            for (ExpressionTree argument : call.getArguments()) {
                check.due(call.toString(), all(argument, MethodInvocationTree.class).size(), 0);
            }
        }
    }

    /** By the source's layout: a method begins and ends four blanks from the left. */
    private static void lengths(Check check, String[] lines) {
        int start = 0;
        for (int i = 0; i < lines.length; i++) {
            if (lines[i].matches(" {4}p\\w+ .*\\{")) {
                start = i;
            }
            if (lines[i].equals("    }")) {
                check.due("lines of the method at line " + (start + 1), i - start + 1 <= 60, true);
            }
        }
    }

    private static List<MethodTree> methods(ClassTree type) {
        return all(type, MethodTree.class);
    }

    private static List<VariableTree> fields(ClassTree type) {
        return type.getMembers().stream().filter(VariableTree.class::isInstance).map(VariableTree.class::cast)
            .collect(Collectors.toList());
    }

    /** The trees of a kind in this one, itself among them. */
    private static <T extends Tree> List<T> all(Tree tree, Class<T> kind) {
        List<T> found = new ArrayList<>();
        new TreeScanner<Void, Void>() {
            @Override
            public Void scan(Tree next, Void none) {
                if (kind.isInstance(next)) {
                    found.add(kind.cast(next));
                }
                return super.scan(next, none);
            }
        }.scan(tree, null);
        return found;
    }
}
