import com.sun.source.tree.ArrayAccessTree;
import com.sun.source.tree.BinaryTree;
import com.sun.source.tree.ClassTree;
import com.sun.source.tree.CompilationUnitTree;
import com.sun.source.tree.CompoundAssignmentTree;
import com.sun.source.tree.ExpressionTree;
import com.sun.source.tree.ForLoopTree;
import com.sun.source.tree.IdentifierTree;
import com.sun.source.tree.LineMap;
import com.sun.source.tree.LiteralTree;
import com.sun.source.tree.MemberSelectTree;
import com.sun.source.tree.MethodInvocationTree;
import com.sun.source.tree.MethodTree;
import com.sun.source.tree.NewArrayTree;
import com.sun.source.tree.NewClassTree;
import com.sun.source.tree.Tree;
import com.sun.source.tree.VariableTree;
import com.sun.source.util.JavacTask;
import com.sun.source.util.SourcePositions;
import com.sun.source.util.TreeScanner;
import com.sun.source.util.Trees;
import java.io.IOException;
import java.lang.reflect.Constructor;
import java.lang.reflect.Field;
import java.lang.reflect.Method;
import java.lang.reflect.Modifier;
import java.nio.file.Files;
import java.nio.file.Path;
import java.util.EnumSet;
import java.util.HashMap;
import java.util.HashSet;
import java.util.List;
import java.util.Map;
import java.util.Set;
import java.util.TreeMap;
import java.util.TreeSet;
import java.util.regex.Matcher;
import java.util.regex.Pattern;
import javax.tools.JavaCompiler;
import javax.tools.StandardJavaFileManager;
import javax.tools.ToolProvider;

/**
 * Those rules of ../shared/LANGUAGE.md that can be looked for in the program's text: the arguments are the program's
 * file and the document, whose face the class must have.
 */
public final class RulesTest {

    private static final Set<Tree.Kind> FORBIDDEN = EnumSet.of(Tree.Kind.THROW, Tree.Kind.TRY, Tree.Kind.CATCH,
        Tree.Kind.SYNCHRONIZED, Tree.Kind.ASSERT, Tree.Kind.LAMBDA_EXPRESSION, Tree.Kind.MEMBER_REFERENCE,
        Tree.Kind.WHILE_LOOP, Tree.Kind.DO_WHILE_LOOP, Tree.Kind.ENHANCED_FOR_LOOP, Tree.Kind.TYPE_CAST,
        Tree.Kind.INSTANCE_OF, Tree.Kind.IMPORT, Tree.Kind.PACKAGE);
    private static final Set<String> DIVISORS_LOOKED_AT = Set.of("commonDivisor", "slept", "drawOf");
    private static final Set<String> RECURSIVE = Set.of("waysToFace");

    private final Map<String, Set<String>> calls = new TreeMap<>();
    private final Map<String, Integer> deep = new HashMap<>();
    private CompilationUnitTree unit;
    private LineMap lines;
    private SourcePositions positions;

    public static void main(String[] args) throws IOException {
        Path file = Path.of(args[0]);
        String document = Files.readString(Path.of(args[1]));
        boolean good = Due.test("rule 1: the face is the document's", due -> face(due, document));
        good &= Due.test("rule 1: all else is private", RulesTest::members);
        good &= Due.test("rules 2 to 12, in the text", due -> new RulesTest().text(due, file));
        if (!good) {
            System.exit(1);
        }
    }

    private static void face(Due due, String document) {
        Set<String> want = new TreeSet<>();
        Matcher m = Pattern.compile("(?m)^    public (int|long) (\\w+)\\(([^)]*)\\);").matcher(document);
        while (m.find()) {
            want.add(m.group(1) + " " + m.group(2) + "(" + m.group(3).replaceAll(" \\w+(?=,|$)", "") + ")");
        }
        due.is("methods that the document names", want.size(), 42);
        Set<String> got = new TreeSet<>();
        for (Method method : SeenFromBehind.class.getDeclaredMethods()) {
            if (!Modifier.isPrivate(method.getModifiers())) {
                due.holds(method + " is not plainly public", method.getModifiers() == Modifier.PUBLIC);
                StringBuilder types = new StringBuilder();
                for (Class<?> type : method.getParameterTypes()) {
                    types.append(types.length() == 0 ? "" : ", ").append(type);
                }
                got.add(method.getReturnType() + " " + method.getName() + "(" + types + ")");
            }
        }
        due.holds("the face is " + got + ", the document's is " + want, got.equals(want));
        due.is("the class is public and final", SeenFromBehind.class.getModifiers(), Modifier.PUBLIC | Modifier.FINAL);
        due.is("constructors", SeenFromBehind.class.getDeclaredConstructors().length, 1);
        due.is("public constructors", SeenFromBehind.class.getConstructors().length, 1);
    }

    private static void members(Due due) {
        Set<String> open = new HashSet<>();
        for (Method method : SeenFromBehind.class.getMethods()) {
            open.add(method.getName());
        }
        Set<Class<?>> classes = new HashSet<>(List.of(SeenFromBehind.class.getDeclaredClasses()));
        due.holds("too many classes", classes.size() < 12);
        for (Class<?> type : classes) {
            int flags = type.getModifiers();
            due.holds(type + " is not private and static", Modifier.isPrivate(flags) && Modifier.isStatic(flags));
            for (Constructor<?> made : type.getDeclaredConstructors()) {
                due.holds(made + " is not private", Modifier.isPrivate(made.getModifiers()));
            }
        }
        classes.add(SeenFromBehind.class);
        for (Class<?> type : classes) {
            int fields = 0;
            for (Field field : type.getDeclaredFields()) {
                int flags = field.getModifiers();
                due.holds(field + " is not private", Modifier.isPrivate(flags));
                due.holds(field + " is static, not final", !Modifier.isStatic(flags) || Modifier.isFinal(flags));
                fields += Modifier.isStatic(flags) ? 0 : 1;
            }
            due.holds(type + " has " + fields + " fields", fields <= 20);
            for (Method method : type.getDeclaredMethods()) {
                boolean hidden = Modifier.isPrivate(method.getModifiers());
                due.holds(method + " is not private", hidden || type == SeenFromBehind.class);
                due.holds(method + " bears a public name", !hidden || !open.contains(method.getName()));
                due.holds(method + " takes too many parameters", method.getParameterCount() <= 7);
            }
        }
    }

    private void text(Due due, Path file) {
        try {
            String source = Files.readString(file);
            due.holds("signs beyond 127", source.chars().allMatch(c -> c < 128));
            JavaCompiler compiler = ToolProvider.getSystemJavaCompiler();
            StandardJavaFileManager files = compiler.getStandardFileManager(null, null, null);
            JavacTask task = (JavacTask) compiler.getTask(null, files, null, List.of("-proc:none"), null,
                files.getJavaFileObjects(file));
            unit = task.parse().iterator().next();
            lines = unit.getLineMap();
            positions = Trees.instance(task).getSourcePositions();
        } catch (IOException e) {
            due.holds("can't be read: " + e, false);
            return;
        }
        new Looker(due).scan(unit, null);
        for (String method : calls.keySet()) {
            int levels = deepFrom(due, method, new HashSet<>());
            due.holds(method + " goes " + levels + " calls deep", levels <= 8);
        }
    }

    /** How many calls stand open at once from a method on, itself counted; the recursion counts once. */
    private int deepFrom(Due due, String method, Set<String> open) {
        if (!calls.containsKey(method)) {
            return 0;
        }
        if (deep.containsKey(method)) {
            return deep.get(method);
        }
        open.add(method);
        int below = 0;
        for (String called : calls.get(method)) {
            if (open.contains(called)) {
                due.holds(called + " comes again", RECURSIVE.contains(called) && called.equals(method));
            } else {
                below = Math.max(below, deepFrom(due, called, open));
            }
        }
        open.remove(method);
        deep.put(method, below + 1);
        return below + 1;
    }

    private final class Looker extends TreeScanner<Void, Void> {
        private final Due due;
        private String method = "";

        Looker(Due due) {
            this.due = due;
        }

        private String at(Tree tree) {
            return "line " + lines.getLineNumber(positions.getStartPosition(unit, tree)) + ": ";
        }

        @Override
        public Void scan(Tree tree, Void nothing) {
            if (tree != null) {
                due.holds(at(tree) + tree.getKind(), !FORBIDDEN.contains(tree.getKind()));
            }
            return super.scan(tree, nothing);
        }

        @Override
        public Void visitClass(ClassTree tree, Void nothing) {
            due.holds(at(tree) + "a class in a method", method.isEmpty());
            return super.visitClass(tree, nothing);
        }

        @Override
        public Void visitMethod(MethodTree tree, Void nothing) {
            method = tree.getName().toString();
            calls.computeIfAbsent(method, key -> new TreeSet<>());
            long length = lines.getLineNumber(positions.getEndPosition(unit, tree))
                - lines.getLineNumber(positions.getStartPosition(unit, tree)) + 1;
            due.holds(at(tree) + method + " has " + length + " lines", length <= 60);
            super.visitMethod(tree, nothing);
            method = "";
            return null;
        }

        @Override
        public Void visitMethodInvocation(MethodInvocationTree tree, Void nothing) {
            ExpressionTree select = tree.getMethodSelect();
            String name = select instanceof MemberSelectTree
                ? ((MemberSelectTree) select).getIdentifier().toString() : select.toString();
            calls.computeIfAbsent(method, key -> new TreeSet<>()).add(name);
            boolean ofLibrary = select.toString().startsWith("Math.") || select.toString().startsWith("Integer.");
            due.holds(at(tree) + select, !ofLibrary || Set.of("min", "max", "abs", "bitCount").contains(name));
            return super.visitMethodInvocation(tree, nothing);
        }

        @Override
        public Void visitNewClass(NewClassTree tree, Void nothing) {
            due.holds(at(tree) + "an object made in " + method, method.isEmpty() || method.equals("<init>"));
            return super.visitNewClass(tree, nothing);
        }

        @Override
        public Void visitNewArray(NewArrayTree tree, Void nothing) {
            due.holds(at(tree) + "an array made in " + method, method.isEmpty() || method.equals("<init>"));
            return super.visitNewArray(tree, nothing);
        }

        /** Every index stands in a method whose text looks at the array's length. */
        @Override
        public Void visitArrayAccess(ArrayAccessTree tree, Void nothing) {
            Set<String> looking = Set.of("<init>", "at", "put", "whoIsAt", "placeAt", "waysToFace");
            due.holds(at(tree) + "an index in " + method, looking.contains(method));
            return super.visitArrayAccess(tree, nothing);
        }

        @Override
        public Void visitBinary(BinaryTree tree, Void nothing) {
            boolean divides = tree.getKind() == Tree.Kind.DIVIDE || tree.getKind() == Tree.Kind.REMAINDER;
            due.holds(at(tree) + "a divisor", !divides || isSure(tree.getRightOperand()));
            return super.visitBinary(tree, nothing);
        }

        @Override
        public Void visitCompoundAssignment(CompoundAssignmentTree tree, Void nothing) {
            boolean divides = tree.getKind() == Tree.Kind.DIVIDE_ASSIGNMENT
                || tree.getKind() == Tree.Kind.REMAINDER_ASSIGNMENT;
            due.holds(at(tree) + "a divisor", !divides);
            return super.visitCompoundAssignment(tree, nothing);
        }

        private boolean isSure(ExpressionTree divisor) {
            boolean number = divisor instanceof LiteralTree && !divisor.toString().equals("0");
            boolean constant = divisor instanceof IdentifierTree && divisor.toString().matches("[A-Z_]+");
            return number || constant || DIVISORS_LOOKED_AT.contains(method);
        }

        /** A counter that goes up by one against a bound. */
        @Override
        public Void visitForLoop(ForLoopTree tree, Void nothing) {
            boolean plain = tree.getInitializer().size() == 1 && tree.getUpdate().size() == 1
                && tree.getInitializer().get(0) instanceof VariableTree && tree.getCondition() != null;
            due.holds(at(tree) + "a loop without a plain counter", plain);
            if (plain) {
                String counter = ((VariableTree) tree.getInitializer().get(0)).getName().toString();
                due.holds(at(tree) + tree.getUpdate(), tree.getUpdate().get(0).toString().equals(counter + "++;"));
                due.holds(at(tree) + tree.getCondition(), tree.getCondition().toString().matches(counter + " <=? .*"));
                due.holds(at(tree) + "the counter changes within",
                    !tree.getStatement().toString().matches("(?s).*\\b" + counter + " [-+*|&^]?= .*"));
            }
            return super.visitForLoop(tree, nothing);
        }
    }
}
