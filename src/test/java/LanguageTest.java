import com.sun.source.tree.ArrayTypeTree;
import com.sun.source.tree.BlockTree;
import com.sun.source.tree.ClassTree;
import com.sun.source.tree.CompilationUnitTree;
import com.sun.source.tree.ExpressionTree;
import com.sun.source.tree.ForLoopTree;
import com.sun.source.tree.IdentifierTree;
import com.sun.source.tree.LineMap;
import com.sun.source.tree.MethodInvocationTree;
import com.sun.source.tree.MethodTree;
import com.sun.source.tree.NewArrayTree;
import com.sun.source.tree.PrimitiveTypeTree;
import com.sun.source.tree.Tree;
import com.sun.source.tree.Tree.Kind;
import com.sun.source.tree.TypeCastTree;
import com.sun.source.tree.VariableTree;
import com.sun.source.util.JavacTask;
import com.sun.source.util.SourcePositions;
import com.sun.source.util.TreeScanner;
import com.sun.source.util.Trees;
import java.io.IOException;
import java.util.ArrayList;
import java.util.EnumSet;
import java.util.HashMap;
import java.util.HashSet;
import java.util.List;
import java.util.Map;
import java.util.Set;
import javax.lang.model.type.TypeKind;
import javax.tools.JavaCompiler;
import javax.tools.StandardJavaFileManager;
import javax.tools.ToolProvider;

/** The source keeps to the rules of LANGUAGE.md that can be read off it; FaceTest looks at the members. */
public final class LanguageTest {
    private static final String SOURCE = "src/main/java/BitSyntaxMatch.java";
    private static final int LONGEST_METHOD = 60;
    private static final int DEEPEST_CALL = 6;

    /**
     * Kinds of trees that the rule forbids, or that the class can do without: a loop that is a for shows its counter,
     * and with no name behind a dot no member of another class can be meant.
     */
    private static final Map<Integer, Set<Kind>> FORBIDDEN = Map.of(
        1, EnumSet.of(Kind.PACKAGE, Kind.INTERFACE, Kind.ENUM, Kind.RECORD, Kind.ANNOTATION_TYPE),
        2, EnumSet.of(Kind.FLOAT_LITERAL, Kind.DOUBLE_LITERAL, Kind.STRING_LITERAL, Kind.PARAMETERIZED_TYPE),
        3, EnumSet.of(Kind.IMPORT, Kind.MEMBER_SELECT),
        4, EnumSet.of(Kind.NULL_LITERAL, Kind.NEW_CLASS),
        6, EnumSet.of(Kind.THROW, Kind.TRY, Kind.SYNCHRONIZED, Kind.ASSERT, Kind.INSTANCE_OF, Kind.LAMBDA_EXPRESSION,
            Kind.MEMBER_REFERENCE),
        8, EnumSet.of(Kind.WHILE_LOOP, Kind.DO_WHILE_LOOP, Kind.ENHANCED_FOR_LOOP));

    private static int wrong = 0;

    private LanguageTest() {
    }

    private static void check(boolean holds, int rule, String what) {
        if (!holds) {
            wrong++;
            System.out.println("rule " + rule + ": " + what);
        }
    }

    private static final class Rules extends TreeScanner<Void, Void> {
        private final CompilationUnitTree file;
        private final SourcePositions positions;
        private final Map<String, Set<String>> callsOf = new HashMap<>();
        private String method = "";
        private int argumentsAround = 0;
        private int classes = 0;

        private Rules(CompilationUnitTree file, SourcePositions positions) {
            this.file = file;
            this.positions = positions;
        }

        private String at(Tree tree) {
            return " in line " + file.getLineMap().getLineNumber(positions.getStartPosition(file, tree));
        }

        @Override
        public Void scan(Tree tree, Void nothing) {
            FORBIDDEN.forEach((rule, kinds) -> {
                if (tree != null && kinds.contains(tree.getKind())) {
                    check(false, rule, tree.getKind() + at(tree));
                }
            });
            return super.scan(tree, nothing);
        }

        @Override
        public Void visitClass(ClassTree tree, Void nothing) {
            classes++;
            check(classes == 1, 1, "a second class" + at(tree));
            for (Tree member : tree.getMembers()) {
                check(!(member instanceof BlockTree), 5, "an initialiser" + at(member));
            }
            return super.visitClass(tree, nothing);
        }

        @Override
        public Void visitMethod(MethodTree tree, Void nothing) {
            method = tree.getName().toString();
            callsOf.put(method, new HashSet<>());
            LineMap lines = file.getLineMap();
            long first = lines.getLineNumber(positions.getStartPosition(file, tree));
            long last = lines.getLineNumber(positions.getEndPosition(file, tree));
            check(last - first < LONGEST_METHOD, 10, method + " is longer than " + LONGEST_METHOD + " lines");
            check(!(tree.getReturnType() instanceof ArrayTypeTree), 4, method + " answers an array");
            super.visitMethod(tree, nothing);
            method = "";
            return null;
        }

        @Override
        public Void visitMethodInvocation(MethodInvocationTree tree, Void nothing) {
            check(!method.isEmpty(), 4, "a call outside of the methods" + at(tree));
            check(argumentsAround == 0, 10, "a call in the arguments of another" + at(tree));
            if (tree.getMethodSelect() instanceof IdentifierTree name) {
                callsOf.get(method).add(name.getName().toString());
            }
            scan(tree.getMethodSelect(), nothing);
            argumentsAround++;
            for (ExpressionTree argument : tree.getArguments()) {
                scan(argument, nothing);
            }
            argumentsAround--;
            return null;
        }

        @Override
        public Void visitNewArray(NewArrayTree tree, Void nothing) {
            check(method.isEmpty(), 4, "an array is made by " + method + at(tree));
            check(tree.getDimensions().size() == 1 && tree.getType() instanceof PrimitiveTypeTree, 2,
                "an array of more than numbers" + at(tree));
            return super.visitNewArray(tree, nothing);
        }

        @Override
        public Void visitVariable(VariableTree tree, Void nothing) {
            Tree type = tree.getType();
            Tree held = type instanceof ArrayTypeTree array ? array.getType() : type;
            check(held instanceof PrimitiveTypeTree, 2, tree.getName() + " is no number" + at(tree));
            return super.visitVariable(tree, nothing);
        }

        @Override
        public Void visitPrimitiveType(PrimitiveTypeTree tree, Void nothing) {
            TypeKind kind = tree.getPrimitiveTypeKind();
            check(kind != TypeKind.FLOAT && kind != TypeKind.DOUBLE, 2, "a " + kind + at(tree));
            return super.visitPrimitiveType(tree, nothing);
        }

        @Override
        public Void visitTypeCast(TypeCastTree tree, Void nothing) {
            check(tree.getType() instanceof PrimitiveTypeTree, 6, "a cast of a reference" + at(tree));
            return super.visitTypeCast(tree, nothing);
        }

        @Override
        public Void visitForLoop(ForLoopTree tree, Void nothing) {
            boolean counts = tree.getInitializer().size() == 1 && tree.getUpdate().size() == 1
                && tree.getCondition() != null && tree.getCondition().getKind() == Kind.LESS_THAN;
            check(counts, 8, "a loop without a counter against a bound" + at(tree));
            return super.visitForLoop(tree, nothing);
        }

        /** How many methods deep the calls of this one go, itself counted; the path has the methods above it. */
        private int depth(String name, List<String> path) {
            if (path.contains(name)) {
                check(false, 8, name + " comes to itself again behind " + path);
                return 0;
            }
            List<String> longer = new ArrayList<>(path);
            longer.add(name);
            int deepest = 0;
            for (String called : callsOf.getOrDefault(name, Set.of())) {
                deepest = Math.max(deepest, depth(called, longer));
            }
            return deepest + 1;
        }

        private void checkDepths() {
            for (String name : callsOf.keySet()) {
                int depth = depth(name, List.of());
                check(depth <= DEEPEST_CALL, 10, name + " goes " + depth + " calls deep");
            }
        }
    }

    public static void main(String[] args) throws IOException {
        JavaCompiler compiler = ToolProvider.getSystemJavaCompiler();
        StandardJavaFileManager files = compiler.getStandardFileManager(null, null, null);
        JavacTask task = (JavacTask) compiler.getTask(null, files, null, null, null, files.getJavaFileObjects(SOURCE));
        for (CompilationUnitTree file : task.parse()) {
            Rules rules = new Rules(file, Trees.instance(task).getSourcePositions());
            rules.scan(file, null);
            rules.checkDepths();
        }
        System.out.println(wrong == 0 ? "the source keeps to the rules" : wrong + " faults");
        if (wrong != 0) {
            System.exit(1);
        }
    }
}
