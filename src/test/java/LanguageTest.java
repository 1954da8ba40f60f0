import com.sun.source.tree.ClassTree;
import com.sun.source.tree.CompilationUnitTree;
import com.sun.source.tree.ExpressionTree;
import com.sun.source.tree.ForLoopTree;
import com.sun.source.tree.IdentifierTree;
import com.sun.source.tree.MemberSelectTree;
import com.sun.source.tree.MethodInvocationTree;
import com.sun.source.tree.MethodTree;
import com.sun.source.tree.NewArrayTree;
import com.sun.source.tree.Tree;
import com.sun.source.tree.Tree.Kind;
import com.sun.source.util.JavacTask;
import com.sun.source.util.SourcePositions;
import com.sun.source.util.TreeScanner;
import com.sun.source.util.Trees;
import java.io.File;
import java.util.ArrayList;
import java.util.EnumSet;
import java.util.List;
import java.util.Map;
import java.util.Set;
import java.util.TreeMap;
import java.util.TreeSet;
import javax.tools.JavaCompiler;
import javax.tools.StandardJavaFileManager;
import javax.tools.ToolProvider;

/** What LANGUAGE.md says of the bodies of the methods, looked at in the source text of the class. */
public final class LanguageTest {
    private static final String SOURCE = "src/main/java/BucketVersions.java";
    private static final int LONGEST_METHOD = 60;
    private static final int DEEPEST_CALLS = 6;

    /**
     * What rules 1, 2, 3, 4 and 6 leave out; and division and loops without a counter, which rules 7 and
     * 8 allow with care, but which the class does without.
     */
    private static final Set<Kind> LEFT_OUT = EnumSet.of(
        Kind.PACKAGE, Kind.IMPORT, Kind.INTERFACE, Kind.ENUM, Kind.RECORD, Kind.ANNOTATION_TYPE,
        Kind.NEW_CLASS, Kind.THROW, Kind.TRY, Kind.CATCH, Kind.SYNCHRONIZED, Kind.ASSERT,
        Kind.INSTANCE_OF, Kind.LAMBDA_EXPRESSION, Kind.MEMBER_REFERENCE, Kind.NULL_LITERAL,
        Kind.STRING_LITERAL, Kind.FLOAT_LITERAL, Kind.DOUBLE_LITERAL, Kind.WHILE_LOOP,
        Kind.DO_WHILE_LOOP, Kind.DIVIDE, Kind.REMAINDER, Kind.DIVIDE_ASSIGNMENT,
        Kind.REMAINDER_ASSIGNMENT);

    private static int wrong = 0;

    private static void hold(boolean holds, String what) {
        if (!holds) {
            wrong++;
            System.out.println("does not hold: " + what);
        }
    }

    /** Goes through the class and keeps, for each method, the methods that it calls. */
    private static final class Scanner extends TreeScanner<Void, Void> {
        private final CompilationUnitTree unit;
        private final SourcePositions positions;
        private final Map<String, Set<String>> calls = new TreeMap<>();
        private String method = null;
        private int classes = 0;
        private int callsAround = 0;

        Scanner(CompilationUnitTree unit, SourcePositions positions) {
            this.unit = unit;
            this.positions = positions;
        }

        private long line(long position) {
            return unit.getLineMap().getLineNumber(position);
        }

        @Override
        public Void scan(Tree tree, Void nothing) {
            if (tree != null && LEFT_OUT.contains(tree.getKind())) {
                hold(false, "no " + tree.getKind() + ", line " + line(positions.getStartPosition(unit, tree)));
            }
            return super.scan(tree, nothing);
        }

        @Override
        public Void visitClass(ClassTree tree, Void nothing) {
            classes++;
            hold(classes == 1, "rule 1: one class, but there is " + tree.getSimpleName());
            return super.visitClass(tree, nothing);
        }

        @Override
        public Void visitMethod(MethodTree tree, Void nothing) {
            method = tree.getName().toString();
            calls.putIfAbsent(method, new TreeSet<>());
            long first = line(positions.getStartPosition(unit, tree));
            long last = line(positions.getEndPosition(unit, tree));
            hold(last - first < LONGEST_METHOD, "rule 10: the method " + method + " is short");
            super.visitMethod(tree, nothing);
            method = null;
            return null;
        }

        @Override
        public Void visitMethodInvocation(MethodInvocationTree tree, Void nothing) {
            ExpressionTree called = tree.getMethodSelect();
            // A constructor's silent super() is no call of the text.
            if (!called.toString().equals("super")) {
                hold(callsAround == 0, "rule 10: no call inside the arguments of another one, in " + method);
                hold(called instanceof IdentifierTree, "rule 3: only own methods are called, in " + method);
                hold(method != null, "rule 5: no call in a field's initialiser");
                if (method != null) {
                    calls.get(method).add(called.toString());
                }
            }
            callsAround++;
            scan(tree.getArguments(), nothing);
            callsAround--;
            return null;
        }

        @Override
        public Void visitNewArray(NewArrayTree tree, Void nothing) {
            hold(method == null, "rule 4: no array is made in " + method);
            hold(tree.getDimensions().size() == 1, "rule 2: arrays have one dimension");
            return super.visitNewArray(tree, nothing);
        }

        @Override
        public Void visitForLoop(ForLoopTree tree, Void nothing) {
            hold(tree.getCondition() != null && tree.getUpdate().size() == 1,
                "rule 8: a loop in " + method + " has a counter and a bound");
            return super.visitForLoop(tree, nothing);
        }

        @Override
        public Void visitMemberSelect(MemberSelectTree tree, Void nothing) {
            hold(tree.getExpression().toString().equals("this"), "rule 3: no " + tree + ", in " + method);
            return super.visitMemberSelect(tree, nothing);
        }
    }

    /** How many calls deep a method goes, itself counted; too deep where it calls itself. */
    private static int depth(Map<String, Set<String>> calls, String method, List<String> around) {
        if (around.contains(method)) {
            hold(false, "rule 8: no recursion, but " + around + " calls " + method);
            return DEEPEST_CALLS + 1;
        }
        hold(calls.containsKey(method), "rule 3: " + method + " is a method of the class");
        List<String> here = new ArrayList<>(around);
        here.add(method);
        int deepest = 0;
        for (String called : calls.getOrDefault(method, Set.of())) {
            deepest = Math.max(deepest, depth(calls, called, here));
        }
        return deepest + 1;
    }

    public static void main(String[] args) throws java.io.IOException {
        JavaCompiler compiler = ToolProvider.getSystemJavaCompiler();
        try (StandardJavaFileManager files = compiler.getStandardFileManager(null, null, null)) {
            JavacTask task = (JavacTask) compiler.getTask(null, files, null, List.of("--release", "17"), null,
                files.getJavaFileObjects(new File(SOURCE)));
            for (CompilationUnitTree unit : task.parse()) {
                Scanner scanner = new Scanner(unit, Trees.instance(task).getSourcePositions());
                scanner.scan(unit, null);
                hold(scanner.classes == 1 && scanner.calls.size() > 16, "the class was read");
                for (String method : scanner.calls.keySet()) {
                    hold(depth(scanner.calls, method, List.of()) <= DEEPEST_CALLS,
                        "rule 10: calls go at most six deep from " + method);
                }
            }
        }
        System.out.println(wrong == 0 ? "the text is as due" : wrong + " things are not as due");
        if (wrong != 0) {
            System.exit(1);
        }
    }
}
