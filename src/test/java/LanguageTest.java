import com.sun.source.tree.ArrayTypeTree;
import com.sun.source.tree.AssignmentTree;
import com.sun.source.tree.ClassTree;
import com.sun.source.tree.CompilationUnitTree;
import com.sun.source.tree.ExpressionTree;
import com.sun.source.tree.IdentifierTree;
import com.sun.source.tree.MemberSelectTree;
import com.sun.source.tree.MethodInvocationTree;
import com.sun.source.tree.MethodTree;
import com.sun.source.tree.NewArrayTree;
import com.sun.source.tree.Tree;
import com.sun.source.tree.VariableTree;
import com.sun.source.util.JavacTask;
import com.sun.source.util.TreeScanner;
import java.io.File;
import java.util.Arrays;
import java.util.HashSet;
import java.util.List;
import java.util.Map;
import java.util.Set;
import java.util.TreeMap;
import java.util.TreeSet;
import javax.lang.model.element.Modifier;
import javax.tools.JavaCompiler;
import javax.tools.StandardJavaFileManager;
import javax.tools.ToolProvider;

/** The rules of LANGUAGE.md that can be read off the source of the class, by their numbers. */
public final class LanguageTest {
    private static final String SOURCE = "src/main/java/RnaFoldEnergy.java";
    private static final Check CHECK = new Check();

    private static final Set<Tree.Kind> FORBIDDEN = Set.of(Tree.Kind.THROW, Tree.Kind.TRY, Tree.Kind.CATCH,
        Tree.Kind.SYNCHRONIZED, Tree.Kind.ASSERT, Tree.Kind.INSTANCE_OF, Tree.Kind.LAMBDA_EXPRESSION,
        Tree.Kind.MEMBER_REFERENCE, Tree.Kind.NEW_CLASS, Tree.Kind.NULL_LITERAL, Tree.Kind.STRING_LITERAL,
        Tree.Kind.FLOAT_LITERAL, Tree.Kind.DOUBLE_LITERAL, Tree.Kind.PARAMETERIZED_TYPE);

    private static final Map<String, Set<String>> CALLS = new TreeMap<>();
    private static final Set<String> ARRAY_FIELDS = new HashSet<>();

    public static void main(String[] args) throws Exception {
        JavaCompiler compiler = ToolProvider.getSystemJavaCompiler();
        try (StandardJavaFileManager files = compiler.getStandardFileManager(null, null, null)) {
            JavacTask task = (JavacTask) compiler.getTask(null, files, null, null, null,
                files.getJavaFileObjects(new File(SOURCE)));
            CompilationUnitTree unit = task.parse().iterator().next();
            CHECK.due("3: imports", unit.getImports().size(), 0);
            CHECK.due("a package line", unit.getPackageName() != null, false);
            CHECK.due("1: classes in the file", unit.getTypeDecls().size(), 1);
            members((ClassTree) unit.getTypeDecls().get(0));
        }
        CHECK.finish();
    }

    private static void members(ClassTree type) {
        Set<String> names = new HashSet<>();
        int fields = 0;
        for (Tree member : type.getMembers()) {
            if (member instanceof VariableTree) {
                VariableTree field = (VariableTree) member;
                boolean isStatic = field.getModifiers().getFlags().contains(Modifier.STATIC);
                fields += isStatic ? 0 : 1;
                field(field, isStatic);
            } else {
                CHECK.due("1: " + member.getKind() + " is a method", member.getKind() == Tree.Kind.METHOD, true);
            }
        }
        CHECK.due("10: " + fields + " fields are at most forty", fields <= 40, true);
        for (Tree member : type.getMembers()) {
            if (member instanceof MethodTree) {
                MethodTree method = (MethodTree) member;
                CHECK.due("1: the name " + method.getName() + " is there once", names.add(method.getName().toString()), true);
                method(method);
            }
        }
        for (String method : CALLS.keySet()) {
            int depth = depth(method, new TreeSet<>());
            CHECK.due("8, 10: " + method + " goes " + depth + " deep", depth <= 6, true);
        }
    }

    private static boolean isNumber(Tree type) {
        return Arrays.asList("int", "long", "short", "byte", "char", "boolean").contains(type.toString());
    }

    private static void type(String at, Tree type) {
        boolean array = type instanceof ArrayTypeTree && isNumber(((ArrayTypeTree) type).getType());
        CHECK.due("2: the type of " + at + ", " + type, array || isNumber(type), true);
    }

    private static void field(VariableTree field, boolean isStatic) {
        type(field.getName().toString(), field.getType());
        if (isStatic) {
            boolean whole = Arrays.asList("int", "long").contains(field.getType().toString());
            CHECK.due("5: the constant " + field.getName(),
                whole && field.getModifiers().getFlags().contains(Modifier.FINAL), true);
        }
        if (field.getType() instanceof ArrayTypeTree) {
            ARRAY_FIELDS.add(field.getName().toString());
            boolean made = field.getInitializer() instanceof NewArrayTree;
            CHECK.due("4: the array " + field.getName() + " is made in its initialiser", made, true);
            if (made) {
                List<? extends ExpressionTree> lengths = ((NewArrayTree) field.getInitializer()).getDimensions();
                CHECK.due("4: its length is a constant",
                    lengths.size() == 1 && lengths.get(0).toString().matches("[A-Z_]+|[1-9][0-9]*"), true);
            }
        }
    }

    private static void method(MethodTree method) {
        String name = method.getName().toString();
        Set<String> called = new TreeSet<>();
        CALLS.put(name, called);
        CHECK.due("10: parameters of " + name, method.getParameters().size() <= 7, true);
        CHECK.due("10: " + name + " is short", method.getBody().toString().lines().count() <= 60, true);
        if (method.getReturnType() != null && !method.getReturnType().toString().equals("void")) {
            CHECK.due("4: " + name + " answers no array", isNumber(method.getReturnType()), true);
        }
        new Rules(name, called).scan(method, null);
    }

    /** How many methods stand in the longest chain of calls from this one; 1000 if it comes back to itself. */
    private static int depth(String method, Set<String> above) {
        if (!CALLS.containsKey(method) || !above.add(method)) {
            return 1000;
        }
        int deepest = 0;
        for (String called : CALLS.get(method)) {
            deepest = Math.max(deepest, depth(called, above));
        }
        above.remove(method);
        return deepest + 1;
    }

    private static final class Rules extends TreeScanner<Void, Void> {
        private final String name;
        private final Set<String> called;
        private boolean inArguments = false;

        Rules(String name, Set<String> called) {
            this.name = name;
            this.called = called;
        }

        @Override
        public Void scan(Tree tree, Void nothing) {
            if (tree != null) {
                CHECK.due("2 to 6: " + tree.getKind() + " in " + name, FORBIDDEN.contains(tree.getKind()), false);
            }
            return super.scan(tree, nothing);
        }

        @Override
        public Void visitVariable(VariableTree variable, Void nothing) {
            type(variable.getName() + " in " + name, variable.getType());
            return super.visitVariable(variable, nothing);
        }

        @Override
        public Void visitMemberSelect(MemberSelectTree select, Void nothing) {
            CHECK.due("3: " + select + " in " + name + " belongs to this class",
                select.getExpression().toString().equals("this"), true);
            return super.visitMemberSelect(select, nothing);
        }

        @Override
        public Void visitNewArray(NewArrayTree array, Void nothing) {
            CHECK.due("4: an array is made in " + name, true, false);
            return super.visitNewArray(array, nothing);
        }

        @Override
        public Void visitAssignment(AssignmentTree assignment, Void nothing) {
            CHECK.due("4: " + assignment + " in " + name + " assigns to an array field",
                ARRAY_FIELDS.contains(assignment.getVariable().toString().replace("this.", "")), false);
            return super.visitAssignment(assignment, nothing);
        }

        @Override
        public Void visitMethodInvocation(MethodInvocationTree call, Void nothing) {
            String to = call.getMethodSelect().toString();
            if (to.equals("super")) {
                return null;
            }
            CHECK.due("3: " + to + " is a method of this class", call.getMethodSelect() instanceof IdentifierTree, true);
            CHECK.due("10: " + call + " in " + name + " stands in another call's arguments", inArguments, false);
            called.add(to);
            boolean before = inArguments;
            inArguments = true;
            scan(call.getArguments(), nothing);
            inArguments = before;
            return null;
        }
    }
}
