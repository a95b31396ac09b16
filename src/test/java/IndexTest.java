import com.sun.source.tree.ArrayAccessTree;
import com.sun.source.tree.BinaryTree;
import com.sun.source.tree.CompilationUnitTree;
import com.sun.source.tree.ExpressionTree;
import com.sun.source.tree.IdentifierTree;
import com.sun.source.tree.MemberSelectTree;
import com.sun.source.tree.MethodInvocationTree;
import com.sun.source.tree.MethodTree;
import com.sun.source.tree.Tree;
import com.sun.source.util.JavacTask;
import com.sun.source.util.TreeScanner;
import java.io.IOException;
import java.nio.file.Path;
import java.util.ArrayList;
import java.util.List;
import java.util.Set;
import java.util.TreeSet;
import javax.tools.JavaCompiler;
import javax.tools.StandardJavaFileManager;
import javax.tools.ToolProvider;

/**
 * LANGUAGE.md, rule 7: "an index is looked at before it is used". Read from the class's own text: what an index is made
 * of must be compared by &lt;, &lt;=, &gt; or &gt;=, or be asked for by has(..), further up in the same method.
 * That the comparison is the right one, this test cannot tell; the calls of the other tests do.
 */
public final class IndexTest {
    private static final Path MAIN = Path.of("src/main/java/ProverbCollection.java");
    private static final Set<Tree.Kind> COMPARISONS = Set.of(
        Tree.Kind.LESS_THAN, Tree.Kind.LESS_THAN_EQUAL, Tree.Kind.GREATER_THAN, Tree.Kind.GREATER_THAN_EQUAL);

    private static int indexes;
    private static int wrong;

    private static void tell(MethodTree method, ArrayAccessTree access, String fault) {
        wrong++;
        System.out.println(method.getName() + ": " + access + ": " + fault);
    }

    /** The variables that a value is computed from; what stands inside an index or a call does not count. */
    private static Set<String> variables(ExpressionTree value) {
        Set<String> found = new TreeSet<>();
        new TreeScanner<Void, Void>() {
            @Override
            public Void visitIdentifier(IdentifierTree tree, Void none) {
                found.add(tree.toString());
                return null;
            }

            @Override
            public Void visitMemberSelect(MemberSelectTree tree, Void none) {
                found.add(tree.toString());
                return null;
            }

            @Override
            public Void visitArrayAccess(ArrayAccessTree tree, Void none) {
                found.add(tree.toString());
                return null;
            }

            @Override
            public Void visitMethodInvocation(MethodInvocationTree tree, Void none) {
                found.add(tree.toString());
                return null;
            }
        }.scan(value, null);
        found.removeIf(name -> name.matches("[A-Z_]+"));
        return found;
    }

    /** Walks through a method in the order of its text. */
    private static final class Walk extends TreeScanner<Void, Void> {
        private final MethodTree method;
        private final Set<String> lookedAt = new TreeSet<>();

        private Walk(MethodTree method) {
            this.method = method;
        }

        @Override
        public Void visitBinary(BinaryTree tree, Void none) {
            super.visitBinary(tree, none);
            if (COMPARISONS.contains(tree.getKind())) {
                lookedAt.addAll(variables(tree.getLeftOperand()));
                lookedAt.addAll(variables(tree.getRightOperand()));
            }
            return null;
        }

        @Override
        public Void visitMethodInvocation(MethodInvocationTree tree, Void none) {
            super.visitMethodInvocation(tree, none);
            String name = tree.getMethodSelect().toString();
            if (name.equals("has") || name.endsWith(".has")) {
                tree.getArguments().forEach(argument -> lookedAt.addAll(variables(argument)));
            }
            return null;
        }

        @Override
        public Void visitArrayAccess(ArrayAccessTree tree, Void none) {
            super.visitArrayAccess(tree, none);
            indexes++;
            Set<String> unseen = variables(tree.getIndex());
            unseen.removeAll(lookedAt);
            for (String variable : unseen) {
                tell(method, tree, variable + " is not looked at before");
            }
            return null;
        }
    }

    private static List<MethodTree> methods() throws IOException {
        JavaCompiler compiler = ToolProvider.getSystemJavaCompiler();
        List<MethodTree> found = new ArrayList<>();
        try (StandardJavaFileManager files = compiler.getStandardFileManager(null, null, null)) {
            JavacTask task =
                (JavacTask) compiler.getTask(null, files, null, null, null, files.getJavaFileObjects(MAIN));
            for (CompilationUnitTree unit : task.parse()) {
                new TreeScanner<Void, Void>() {
                    @Override
                    public Void visitMethod(MethodTree tree, Void none) {
                        found.add(tree);
                        return super.visitMethod(tree, none);
                    }
                }.scan(unit, null);
            }
        }
        return found;
    }

    public static void main(String[] args) throws IOException {
        for (MethodTree method : methods()) {
            new Walk(method).scan(method, null);
        }
        if (indexes == 0) {
            wrong++;
            System.out.println("no index found in " + MAIN);
        }
        System.out.println(indexes + " indexes, " + wrong + " of their parts not looked at");
        if (wrong != 0) {
            System.exit(1);
        }
    }
}
