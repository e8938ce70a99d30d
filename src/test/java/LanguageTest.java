import com.sun.source.tree.ClassTree;
import com.sun.source.tree.CompilationUnitTree;
import com.sun.source.tree.ExpressionTree;
import com.sun.source.tree.IdentifierTree;
import com.sun.source.tree.LiteralTree;
import com.sun.source.tree.MethodInvocationTree;
import com.sun.source.tree.MethodTree;
import com.sun.source.tree.NewArrayTree;
import com.sun.source.tree.Tree;
import com.sun.source.tree.Tree.Kind;
import com.sun.source.tree.VariableTree;
import com.sun.source.util.JavacTask;
import com.sun.source.util.SourcePositions;
import com.sun.source.util.TreeScanner;
import com.sun.source.util.Trees;
import java.io.IOException;
import java.nio.file.Path;
import java.util.EnumSet;
import java.util.HashMap;
import java.util.HashSet;
import java.util.Map;
import java.util.Set;
import java.util.TreeSet;
import javax.lang.model.element.Modifier;
import javax.tools.JavaCompiler;
import javax.tools.StandardJavaFileManager;
import javax.tools.ToolProvider;

/** The rules of LANGUAGE.md that the source alone can tell; the numbers in the messages are theirs. */
public final class LanguageTest {
    private static final Path SOURCE = Path.of("src", "main", "java", "VirtualFiles.java");
    private static final int LONGEST_METHOD = 60, MOST_PARAMETERS = 7, DEEPEST_CALLS = 6, MOST_FIELDS = 40;
    private static final Set<String> TYPES = Set.of("int", "long", "short", "byte", "char", "boolean", "int[]", "long[]",
            "short[]", "byte[]", "char[]", "boolean[]", "void");
    private static final Set<Kind> FORBIDDEN = EnumSet.of(Kind.THROW, Kind.TRY, Kind.CATCH, Kind.SYNCHRONIZED,
            Kind.ASSERT, Kind.INSTANCE_OF, Kind.LAMBDA_EXPRESSION, Kind.MEMBER_REFERENCE, Kind.STRING_LITERAL,
            Kind.NULL_LITERAL, Kind.NEW_CLASS, Kind.FLOAT_LITERAL, Kind.DOUBLE_LITERAL, Kind.MEMBER_SELECT,
            Kind.IMPORT, Kind.PACKAGE, Kind.ENHANCED_FOR_LOOP);
    private static final Set<String> PUBLIC_METHODS = new TreeSet<>(Set.of("step", "wipe", "make", "mount", "unmount",
            "pack", "sync", "free", "enter", "directory", "link", "entry", "open", "close", "read", "write", "seek",
            "resize", "remove", "prune", "rename", "about", "name"));

    private static int wrong = 0;

    private final CompilationUnitTree unit;
    private final SourcePositions positions;
    private final Map<String, Set<String>> calls = new HashMap<>();

    private LanguageTest(CompilationUnitTree unit, SourcePositions positions) {
        this.unit = unit;
        this.positions = positions;
    }

    public static void main(String[] args) throws IOException {
        JavaCompiler compiler = ToolProvider.getSystemJavaCompiler();
        try (StandardJavaFileManager files = compiler.getStandardFileManager(null, null, null)) {
            JavacTask task = (JavacTask) compiler.getTask(null, files, null, null, null, files.getJavaFileObjects(SOURCE));
            for (CompilationUnitTree unit : task.parse()) {
                new LanguageTest(unit, Trees.instance(task).getSourcePositions()).check();
            }
        }
        System.out.println(wrong == 0 ? "the rules are kept" : wrong + " rules are broken");
        if (wrong != 0) {
            System.exit(1);
        }
    }

    private void broken(int rule, Tree tree, String why) {
        wrong++;
        System.out.println("rule " + rule + ", line " + line(positions.getStartPosition(unit, tree)) + ": " + why);
    }

    private long line(long position) {
        return unit.getLineMap().getLineNumber(position);
    }

    private void check() {
        if (unit.getTypeDecls().size() != 1 || unit.getPackageName() != null) {
            broken(1, unit, "not one class without a package");
        }
        ClassTree type = (ClassTree) unit.getTypeDecls().get(0);
        if (!type.getModifiers().getFlags().equals(Set.of(Modifier.PUBLIC, Modifier.FINAL))) {
            broken(1, type, "the class is not public and final");
        }
        checkMembers(type);
        checkTree(type);
        for (String method : calls.keySet()) {
            if (depthFrom(method, new HashSet<>()) > DEEPEST_CALLS) {
                broken(10, type, "the calls from " + method + " go too deep");
            }
        }
    }

    private void checkMembers(ClassTree type) {
        Set<String> publicMethods = new TreeSet<>();
        Set<String> privateMethods = new TreeSet<>();
        int fields = 0;
        for (Tree member : type.getMembers()) {
            if (member instanceof MethodTree) {
                MethodTree method = (MethodTree) member;
                checkMethod(method);
                boolean isPrivate = method.getModifiers().getFlags().contains(Modifier.PRIVATE);
                (isPrivate ? privateMethods : publicMethods).add(method.getName().toString());
            } else if (member instanceof VariableTree) {
                fields += checkField((VariableTree) member);
            } else {
                broken(1, member, "neither a method nor a field");
            }
        }
        if (fields > MOST_FIELDS) {
            broken(10, type, fields + " fields");
        }
        publicMethods.remove("<init>");
        if (!publicMethods.equals(PUBLIC_METHODS)) {
            broken(1, type, "the public methods are " + publicMethods);
        }
        privateMethods.retainAll(publicMethods);
        if (!privateMethods.isEmpty()) {
            broken(1, type, "private and public methods share the names " + privateMethods);
        }
    }

    private void checkMethod(MethodTree method) {
        long first = line(positions.getStartPosition(unit, method));
        long last = line(positions.getEndPosition(unit, method));
        if (last - first >= LONGEST_METHOD) {
            broken(10, method, method.getName() + " is too long");
        }
        if (method.getParameters().size() > MOST_PARAMETERS) {
            broken(10, method, method.getName() + " has too many parameters");
        }
        if (method.getReturnType() != null && method.getReturnType().toString().endsWith("[]")) {
            broken(4, method, method.getName() + " answers an array");
        }
    }

    /** 1 for a field that is no constant. */
    private int checkField(VariableTree field) {
        Set<Modifier> flags = field.getModifiers().getFlags();
        if (!flags.contains(Modifier.STATIC)) {
            if (!flags.contains(Modifier.PRIVATE)) {
                broken(1, field, field.getName() + " is not private");
            }
            return 1;
        }
        boolean number = field.getType().toString().equals("int") || field.getType().toString().equals("long");
        if (!flags.contains(Modifier.FINAL) || !number) {
            broken(5, field, field.getName() + " is static, but no constant");
        }
        return 0;
    }

    private void checkTree(ClassTree type) {
        new TreeScanner<Void, String>() {
            @Override
            public Void scan(Tree tree, String method) {
                if (tree != null && FORBIDDEN.contains(tree.getKind())) {
                    broken(6, tree, "a " + tree.getKind());
                }
                return super.scan(tree, method);
            }

            @Override
            public Void visitMethod(MethodTree tree, String method) {
                calls.put(tree.getName().toString(), new TreeSet<>());
                return super.visitMethod(tree, tree.getName().toString());
            }

            @Override
            public Void visitVariable(VariableTree tree, String method) {
                if (!TYPES.contains(tree.getType().toString())) {
                    broken(2, tree, "the type " + tree.getType());
                }
                return super.visitVariable(tree, method);
            }

            @Override
            public Void visitNewArray(NewArrayTree tree, String method) {
                boolean plain = tree.getDimensions().size() == 1 && tree.getInitializers() == null;
                Tree length = plain ? tree.getDimensions().get(0) : null;
                if (method != null || !(length instanceof LiteralTree || length instanceof IdentifierTree)) {
                    broken(4, tree, "an array in a method, or of a length that is no literal and no constant");
                }
                return super.visitNewArray(tree, method);
            }

            @Override
            public Void visitMethodInvocation(MethodInvocationTree tree, String method) {
                String called = tree.getMethodSelect().toString();
                if (method == null) {
                    broken(4, tree, "a call in a field's initialiser");
                } else if (!called.equals("super")) {
                    calls.get(method).add(called);
                }
                for (ExpressionTree argument : tree.getArguments()) {
                    if (holdsCall(argument)) {
                        broken(10, tree, "a call inside the arguments of another");
                    }
                }
                return super.visitMethodInvocation(tree, method);
            }
        }.scan(type.getMembers(), null);
    }

    private static boolean holdsCall(ExpressionTree argument) {
        boolean[] found = {false};
        new TreeScanner<Void, Void>() {
            @Override
            public Void visitMethodInvocation(MethodInvocationTree tree, Void nothing) {
                found[0] = true;
                return null;
            }
        }.scan(argument, null);
        return found[0];
    }

    private int depthFrom(String method, Set<String> above) {
        if (!above.add(method)) {
            wrong++;
            System.out.println("rule 8: " + method + " calls itself");
            return 0;
        }
        int deepest = 0;
        for (String called : calls.getOrDefault(method, Set.of())) {
            deepest = Math.max(deepest, depthFrom(called, above));
        }
        above.remove(method);
        return 1 + deepest;
    }
}
