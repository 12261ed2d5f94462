import com.sun.source.tree.*;
import com.sun.source.util.JavacTask;
import com.sun.source.util.TreeScanner;
import java.io.IOException;
import java.nio.file.Path;
import java.util.ArrayDeque;
import java.util.ArrayList;
import java.util.Deque;
import java.util.HashMap;
import java.util.List;
import java.util.Map;
import java.util.Set;
import java.util.TreeSet;
import javax.lang.model.element.Modifier;
import javax.tools.JavaCompiler;
import javax.tools.StandardJavaFileManager;
import javax.tools.ToolProvider;

// Those rules of LANGUAGE.md that can be seen from the source's shape. Rule 7, that every loop ends (8), and how
// methods compare and rename arrays (4) are left to reading; GenomeSorterFace looks at the public face (1).
// Rule 11 follows from there being no call but to the class's own methods.
public final class GenomeSorterLanguage {
    private static final Set<String> TYPES = Set.of("int", "long", "short", "byte", "char", "boolean", "void",
        "int[]", "long[]", "short[]", "byte[]", "char[]", "boolean[]");
    private static final Set<Tree.Kind> FORBIDDEN = Set.of(Tree.Kind.THROW, Tree.Kind.TRY, Tree.Kind.SYNCHRONIZED,
        Tree.Kind.ASSERT, Tree.Kind.INSTANCE_OF, Tree.Kind.LAMBDA_EXPRESSION, Tree.Kind.MEMBER_REFERENCE,
        Tree.Kind.NULL_LITERAL, Tree.Kind.NEW_CLASS, Tree.Kind.STRING_LITERAL, Tree.Kind.FLOAT_LITERAL,
        Tree.Kind.DOUBLE_LITERAL, Tree.Kind.IMPORT, Tree.Kind.PACKAGE, Tree.Kind.INTERFACE, Tree.Kind.ENUM,
        Tree.Kind.RECORD, Tree.Kind.ANNOTATION);

    private static CompilationUnitTree unit;
    private static ClassTree program;
    private static final Map<String, Set<String>> calls = new HashMap<>();

    public static void main(String[] args) throws IOException {
        unit = parsed(Path.of("src/main/java/GenomeSorter.java"));
        program = (ClassTree) unit.getTypeDecls().get(0);
        Due.test("1: one class", () -> Due.answer("classes of the file", unit.getTypeDecls().size(), 1));
        Due.test("1 to 6: what stands in it", GenomeSorterLanguage::everyTree);
        Due.test("1: names of methods", GenomeSorterLanguage::namesOfMethods);
        Due.test("4, 5, 10: fields", GenomeSorterLanguage::fields);
        Due.test("2, 4, 10: methods", GenomeSorterLanguage::methods);
        Due.test("8, 10: calls", GenomeSorterLanguage::depthOfCalls);
        Due.end();
    }

    private static CompilationUnitTree parsed(Path source) throws IOException {
        JavaCompiler compiler = ToolProvider.getSystemJavaCompiler();
        try (StandardJavaFileManager files = compiler.getStandardFileManager(null, null, null)) {
            JavacTask task = (JavacTask) compiler.getTask(null, files, null, null, null, files.getJavaFileObjects(source));
            return task.parse().iterator().next();
        }
    }

    private static void mustHold(String rule, boolean holds, Object where) {
        Due.answer(rule + ", at: " + where + " -", holds, true);
    }

    private static void everyTree() {
        new TreeScanner<Void, Void>() {
            @Override
            public Void scan(Tree tree, Void nothing) {
                if (tree != null) {
                    mustHold("nothing forbidden", !FORBIDDEN.contains(tree.getKind()), tree);
                    mustHold("no class in the class", !(tree instanceof ClassTree) || tree == program, tree);
                }
                return super.scan(tree, nothing);
            }

            @Override
            public Void visitVariable(VariableTree variable, Void nothing) {
                mustHold("a number type", TYPES.contains(String.valueOf(variable.getType())), variable);
                return super.visitVariable(variable, nothing);
            }

            @Override
            public Void visitTypeCast(TypeCastTree cast, Void nothing) {
                mustHold("a cast between numbers", cast.getType() instanceof PrimitiveTypeTree, cast);
                return super.visitTypeCast(cast, nothing);
            }

            @Override
            public Void visitPrimitiveType(PrimitiveTypeTree type, Void nothing) {
                mustHold("whole numbers", TYPES.contains(type.toString()), type);
                return super.visitPrimitiveType(type, nothing);
            }

            @Override
            public Void visitMemberSelect(MemberSelectTree select, Void nothing) {
                boolean own = select.getExpression().toString().equals("this");
                mustHold("nothing of another class", own, select);
                return super.visitMemberSelect(select, nothing);
            }

            @Override
            public Void visitMethodInvocation(MethodInvocationTree call, Void nothing) {
                for (ExpressionTree argument : call.getArguments()) {
                    mustHold("no call in a call's arguments", calledIn(argument).isEmpty(), call);
                }
                return super.visitMethodInvocation(call, nothing);
            }
        }.scan(unit, null);
    }

    // Stricter than the rule, which lets private methods share a name: calls are followed by name below.
    private static void namesOfMethods() {
        Set<String> seen = new TreeSet<>();
        for (MethodTree method : methodsOf(program)) {
            mustHold("a name of its own", seen.add(method.getName().toString()), method.getName());
        }
    }

    private static void fields() {
        int variables = 0;
        Set<String> constants = new TreeSet<>();
        for (Tree member : program.getMembers()) {
            mustHold("no initialiser block", !(member instanceof BlockTree), member);
            if (member instanceof VariableTree field && field.getModifiers().getFlags().contains(Modifier.STATIC)) {
                constants.add(field.getName().toString());
                constantField(field);
            }
        }
        for (Tree member : program.getMembers()) {
            if (member instanceof VariableTree field && !field.getModifiers().getFlags().contains(Modifier.STATIC)) {
                variables++;
                if (field.getType() instanceof ArrayTypeTree) {
                    arrayField(field, constants);
                }
            }
        }
        mustHold("at most forty fields", variables <= 40, variables);
    }

    private static void constantField(VariableTree field) {
        Set<String> types = Set.of("int", "long");
        boolean isFinal = field.getModifiers().getFlags().contains(Modifier.FINAL);
        mustHold("a constant of int or long", isFinal && types.contains(field.getType().toString()), field);
        mustHold("known when compiled", field.getInitializer() != null && calledIn(field).isEmpty(), field);
    }

    private static void arrayField(VariableTree field, Set<String> constants) {
        mustHold("an array that is made once", field.getModifiers().getFlags().contains(Modifier.FINAL), field);
        boolean made = field.getInitializer() instanceof NewArrayTree;
        mustHold("an array made in the field's initialiser", made, field);
        if (made) {
            List<? extends ExpressionTree> lengths = ((NewArrayTree) field.getInitializer()).getDimensions();
            boolean fixed = lengths.size() == 1
                && (lengths.get(0) instanceof LiteralTree || constants.contains(lengths.get(0).toString()));
            mustHold("one length, a literal or a constant", fixed, field);
        }
    }

    private static void methods() {
        for (MethodTree method : methodsOf(program)) {
            Tree answer = method.getReturnType();
            mustHold("no array is answered", !(answer instanceof ArrayTypeTree), method.getName());
            mustHold("a number is answered", answer == null || TYPES.contains(answer.toString()), method.getName());
            mustHold("at most seven parameters", method.getParameters().size() <= 7, method.getName());
            mustHold("some sixty lines", method.toString().strip().lines().count() <= 60, method.getName());
            new TreeScanner<Void, Void>() {
                @Override
                public Void visitNewArray(NewArrayTree array, Void nothing) {
                    mustHold("no array made in a method", false, array);
                    return super.visitNewArray(array, nothing);
                }
            }.scan(method, null);
        }
    }

    private static void depthOfCalls() {
        for (MethodTree method : methodsOf(program)) {
            calls.put(method.getName().toString(), calledIn(method.getBody()));
        }
        for (String name : calls.keySet()) {
            follow(name, new ArrayDeque<>());
        }
    }

    private static void follow(String name, Deque<String> callers) {
        boolean again = callers.contains(name);
        mustHold("no recursion", !again, name + " under " + callers);
        mustHold("a method of the class", calls.containsKey(name) || name.equals("super"), name);
        if (!again) {
            callers.push(name);
            mustHold("at most six calls deep", callers.size() <= 6, callers);
            calls.getOrDefault(name, Set.of()).forEach(each -> follow(each, callers));
            callers.pop();
        }
    }

    private static List<MethodTree> methodsOf(ClassTree each) {
        List<MethodTree> methods = new ArrayList<>();
        for (Tree member : each.getMembers()) {
            if (member instanceof MethodTree method) {
                methods.add(method);
            }
        }
        return methods;
    }

    private static Set<String> calledIn(Tree tree) {
        Set<String> names = new TreeSet<>();
        new TreeScanner<Void, Void>() {
            @Override
            public Void visitMethodInvocation(MethodInvocationTree call, Void nothing) {
                names.add(call.getMethodSelect().toString());
                return super.visitMethodInvocation(call, nothing);
            }
        }.scan(tree, null);
        return names;
    }
}
