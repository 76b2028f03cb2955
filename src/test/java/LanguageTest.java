import com.sun.source.tree.ArrayTypeTree;
import com.sun.source.tree.BlockTree;
import com.sun.source.tree.ClassTree;
import com.sun.source.tree.CompilationUnitTree;
import com.sun.source.tree.ExpressionTree;
import com.sun.source.tree.IdentifierTree;
import com.sun.source.tree.LiteralTree;
import com.sun.source.tree.MemberSelectTree;
import com.sun.source.tree.MethodInvocationTree;
import com.sun.source.tree.MethodTree;
import com.sun.source.tree.NewArrayTree;
import com.sun.source.tree.PrimitiveTypeTree;
import com.sun.source.tree.Tree;
import com.sun.source.tree.TypeCastTree;
import com.sun.source.tree.VariableTree;
import com.sun.source.util.JavacTask;
import com.sun.source.util.SourcePositions;
import com.sun.source.util.TreeScanner;
import com.sun.source.util.Trees;
import java.io.File;
import java.io.IOException;
import java.util.EnumSet;
import java.util.HashMap;
import java.util.HashSet;
import java.util.Map;
import java.util.Set;
import java.util.TreeSet;
import javax.lang.model.element.Modifier;
import javax.lang.model.type.TypeKind;
import javax.tools.JavaCompiler;
import javax.tools.StandardJavaFileManager;
import javax.tools.ToolProvider;

/**
 * Rules of LANGUAGE.md that can be seen in the source; FaceTest has those that reflection sees. Not looked
 * at, so to be read for: rule 7, the ends of loops, and arrays that are compared or swapped (rule 4).
 */
public final class LanguageTest {
    private static final String SOURCE = "src/main/java/LeastDeviations.java";
    private static final int MOST_DEPTH = 6;
    private static final int MOST_LINES = 60;
    private static final int MOST_PARAMETERS = 7;
    private static final int MOST_FIELDS = 40;

    private static final Set<Tree.Kind> FORBIDDEN = EnumSet.of(
        Tree.Kind.THROW, Tree.Kind.TRY, Tree.Kind.CATCH, Tree.Kind.SYNCHRONIZED, Tree.Kind.ASSERT,
        Tree.Kind.INSTANCE_OF, Tree.Kind.LAMBDA_EXPRESSION, Tree.Kind.MEMBER_REFERENCE, Tree.Kind.NEW_CLASS,
        Tree.Kind.NULL_LITERAL, Tree.Kind.STRING_LITERAL, Tree.Kind.FLOAT_LITERAL, Tree.Kind.DOUBLE_LITERAL,
        Tree.Kind.ANNOTATION, Tree.Kind.PARAMETERIZED_TYPE);
    private static final Set<TypeKind> PLAIN = EnumSet.of(
        TypeKind.INT, TypeKind.LONG, TypeKind.SHORT, TypeKind.BYTE, TypeKind.CHAR, TypeKind.BOOLEAN);

    private static CompilationUnitTree unit;
    private static SourcePositions positions;
    private static final Map<String, Set<String>> calls = new HashMap<>();

    public static void main(String[] args) throws IOException {
        read();
        Check.same("types of the file (rule 1)", unit.getTypeDecls().size(), 1);
        Check.same("a package line is there", unit.getPackage() != null, false);
        Check.same("imports (rule 3)", unit.getImports().size(), 0);
        ClassTree program = (ClassTree) unit.getTypeDecls().get(0);
        members(program);
        new Rules().scan(program, null);
        calledAreOwn();
        depths();
        Check.end();
    }

    private static void read() throws IOException {
        JavaCompiler compiler = ToolProvider.getSystemJavaCompiler();
        try (StandardJavaFileManager files = compiler.getStandardFileManager(null, null, null)) {
            JavacTask task = (JavacTask) compiler.getTask(
                null, files, null, null, null, files.getJavaFileObjects(new File(SOURCE)));
            unit = task.parse().iterator().next();
            positions = Trees.instance(task).getSourcePositions();
        }
    }

    private static boolean ok(String what, boolean holds) {
        Check.same(what, holds, true);
        return holds;
    }

    private static long line(long position) {
        return unit.getLineMap().getLineNumber(position);
    }

    private static String at(Tree tree) {
        return " in line " + line(positions.getStartPosition(unit, tree));
    }

    private static boolean isPlain(Tree type) {
        return type instanceof PrimitiveTypeTree
            && PLAIN.contains(((PrimitiveTypeTree) type).getPrimitiveTypeKind());
    }

    private static boolean isAllowed(Tree type) {
        return isPlain(type) || type instanceof ArrayTypeTree && isPlain(((ArrayTypeTree) type).getType());
    }

    private static void members(ClassTree program) {
        int fields = 0;
        for (Tree member : program.getMembers()) {
            ok("no nested type (rule 1)" + at(member), !(member instanceof ClassTree));
            ok("no initialiser block (rules 4 and 5)" + at(member), !(member instanceof BlockTree));
            if (member instanceof VariableTree) {
                fields += field((VariableTree) member);
            }
            if (member instanceof MethodTree) {
                method((MethodTree) member);
            }
        }
        ok(fields + " fields (rule 10)", fields <= MOST_FIELDS);
    }

    /** Answers 1 for a field beside the constants. */
    private static int field(VariableTree field) {
        if (!field.getModifiers().getFlags().contains(Modifier.STATIC)) {
            return 1;
        }
        ok("a constant has a value (rule 5)" + at(field), field.getInitializer() != null);
        ok("a constant is no array (rule 5)" + at(field), isPlain(field.getType()));
        return 0;
    }

    private static void method(MethodTree method) {
        String name = method.getName().toString();
        ok(name + " is declared once", !calls.containsKey(name));
        calls.put(name, new TreeSet<>());
        ok("parameters of " + name + " (rule 10)", method.getParameters().size() <= MOST_PARAMETERS);
        ok("lines of " + name + " (rule 10)", lines(method) <= MOST_LINES);
        Tree answer = method.getReturnType();
        boolean answersNone = answer == null || answer instanceof PrimitiveTypeTree
            && ((PrimitiveTypeTree) answer).getPrimitiveTypeKind() == TypeKind.VOID;
        ok(name + " answers a plain type (rules 2 and 4)", answersNone || isPlain(answer));
    }

    private static long lines(MethodTree method) {
        return line(positions.getEndPosition(unit, method)) - line(positions.getStartPosition(unit, method)) + 1;
    }

    /** A name that isn't declared here would be one of Object's methods (rule 3). */
    private static void calledAreOwn() {
        for (Set<String> called : calls.values()) {
            for (String name : called) {
                ok(name + " is a method of the class (rule 3)", calls.containsKey(name));
            }
        }
    }

    /** Methods are taken off from the bottom; what never becomes free calls itself in a ring (rule 8). */
    private static void depths() {
        Map<String, Integer> depth = new HashMap<>();
        for (int round = 0; round < calls.size(); round++) {
            for (String name : calls.keySet()) {
                if (!depth.containsKey(name) && depth.keySet().containsAll(calls.get(name))) {
                    int below = 0;
                    for (String called : calls.get(name)) {
                        below = Math.max(below, depth.get(called));
                    }
                    depth.put(name, below + 1);
                }
            }
        }
        for (String name : calls.keySet()) {
            if (ok(name + " isn't recursive (rule 8)", depth.containsKey(name))) {
                ok(name + " is " + depth.get(name) + " deep (rule 10)", depth.get(name) <= MOST_DEPTH);
            }
        }
    }

    /** Looks at every part of the class and notes which method calls which. */
    private static final class Rules extends TreeScanner<Void, Void> {
        private final Set<String> arrays = new HashSet<>();
        private String method = "";
        private boolean inArguments = false;

        @Override
        public Void scan(Tree tree, Void none) {
            if (tree != null) {
                ok("no " + tree.getKind() + at(tree), !FORBIDDEN.contains(tree.getKind()));
            }
            return super.scan(tree, none);
        }

        @Override
        public Void visitMethod(MethodTree tree, Void none) {
            method = tree.getName().toString();
            super.visitMethod(tree, none);
            method = "";
            return null;
        }

        @Override
        public Void visitVariable(VariableTree tree, Void none) {
            ok("a type of rule 2" + at(tree), isAllowed(tree.getType()));
            if (tree.getType() instanceof ArrayTypeTree && method.isEmpty()) {
                arrays.add(tree.getName().toString());
                ok("an array field is final, so no method assigns to it (rule 4)" + at(tree),
                    tree.getModifiers().getFlags().contains(Modifier.FINAL));
            }
            return super.visitVariable(tree, none);
        }

        @Override
        public Void visitTypeCast(TypeCastTree tree, Void none) {
            ok("a cast between number types (rule 6)" + at(tree), isPlain(tree.getType()));
            return super.visitTypeCast(tree, none);
        }

        @Override
        public Void visitNewArray(NewArrayTree tree, Void none) {
            ok("an array is made in a field's initialiser (rule 4)" + at(tree), method.isEmpty());
            boolean sized = tree.getInitializers() == null && tree.getDimensions().size() == 1;
            if (ok("an array has one length (rules 2 and 4)" + at(tree), sized)) {
                ExpressionTree length = tree.getDimensions().get(0);
                ok("the length is a literal or a constant (rule 4)" + at(tree),
                    length instanceof LiteralTree || length instanceof IdentifierTree);
            }
            return super.visitNewArray(tree, none);
        }

        /** Nothing has members but this object and an array, whose one is its length. */
        @Override
        public Void visitMemberSelect(MemberSelectTree tree, Void none) {
            String owner = tree.getExpression().toString();
            ok(tree + " is a field or a length (rule 3)" + at(tree),
                owner.equals("this") || arrays.contains(owner) && tree.getIdentifier().contentEquals("length"));
            return super.visitMemberSelect(tree, none);
        }

        @Override
        public Void visitMethodInvocation(MethodInvocationTree tree, Void none) {
            String called = tree.getMethodSelect().toString();
            ok("a plain call of " + called + " (rule 3)" + at(tree), tree.getMethodSelect() instanceof IdentifierTree);
            ok(called + " stands in no call's arguments (rule 10)" + at(tree), !inArguments);
            calls.computeIfAbsent(method, m -> new TreeSet<>()).add(called);
            boolean outer = inArguments;
            inArguments = true;
            scan(tree.getArguments(), none);
            inArguments = outer;
            return null;
        }
    }
}
