import com.sun.source.tree.AssertTree;
import com.sun.source.tree.ClassTree;
import com.sun.source.tree.CompilationUnitTree;
import com.sun.source.tree.IdentifierTree;
import com.sun.source.tree.ImportTree;
import com.sun.source.tree.InstanceOfTree;
import com.sun.source.tree.LambdaExpressionTree;
import com.sun.source.tree.LiteralTree;
import com.sun.source.tree.MemberReferenceTree;
import com.sun.source.tree.MemberSelectTree;
import com.sun.source.tree.MethodInvocationTree;
import com.sun.source.tree.MethodTree;
import com.sun.source.tree.NewArrayTree;
import com.sun.source.tree.NewClassTree;
import com.sun.source.tree.PackageTree;
import com.sun.source.tree.PrimitiveTypeTree;
import com.sun.source.tree.SynchronizedTree;
import com.sun.source.tree.ThrowTree;
import com.sun.source.tree.Tree;
import com.sun.source.tree.TryTree;
import com.sun.source.tree.VariableTree;
import com.sun.source.util.JavacTask;
import com.sun.source.util.TreeScanner;
import com.sun.source.util.Trees;
import java.io.IOException;
import java.util.ArrayList;
import java.util.EnumSet;
import java.util.HashSet;
import java.util.List;
import java.util.Map;
import java.util.Set;
import java.util.TreeMap;
import java.util.TreeSet;
import javax.lang.model.element.Modifier;
import javax.lang.model.type.TypeKind;
import javax.tools.JavaCompiler;
import javax.tools.StandardJavaFileManager;
import javax.tools.ToolProvider;

/** What the syntax of the class shows of the rules of LANGUAGE.md; what its members show of them is in FaceTest. */
public final class LanguageTest {
    private static final Check CHECK = new Check("LanguageTest");
    private static final Set<TypeKind> TYPES = EnumSet.of(TypeKind.INT, TypeKind.LONG, TypeKind.SHORT, TypeKind.BYTE,
        TypeKind.CHAR, TypeKind.BOOLEAN, TypeKind.VOID);
    private static final Set<Tree.Kind> LITERALS = EnumSet.of(Tree.Kind.INT_LITERAL, Tree.Kind.LONG_LITERAL,
        Tree.Kind.CHAR_LITERAL, Tree.Kind.BOOLEAN_LITERAL);
    private static final int MOST_PARAMETERS = 7;
    private static final int MOST_LINES = 60;
    private static final int MOST_FIELDS = 40;
    private static final int DEEPEST_CALL = 6;

    public static void main(String[] args) throws IOException {
        JavaCompiler compiler = ToolProvider.getSystemJavaCompiler();
        try (StandardJavaFileManager files = compiler.getStandardFileManager(null, null, null)) {
            JavacTask task = (JavacTask) compiler.getTask(null, files, null, null, null,
                files.getJavaFileObjects("src/main/java/RouteInterlocking.java"));
            CompilationUnitTree file = task.parse().iterator().next();
            Names names = new Names();
            names.scan(file, null);
            new Forbidden(names.declared).scan(file, null);
            CHECK.same("rule 1: classes in the file", file.getTypeDecls().size(), 1);
            sizes(file, Trees.instance(task));
            calls(names.callsOf);
        }
        CHECK.end();
    }

    private static void sizes(CompilationUnitTree file, Trees trees) {
        int fields = 0;
        for (Tree member : ((ClassTree) file.getTypeDecls().get(0)).getMembers()) {
            if (member instanceof VariableTree field && !field.getModifiers().getFlags().contains(Modifier.STATIC)) {
                fields++;
            } else if (member instanceof MethodTree method) {
                long first = file.getLineMap().getLineNumber(trees.getSourcePositions().getStartPosition(file, method));
                long last = file.getLineMap().getLineNumber(trees.getSourcePositions().getEndPosition(file, method));
                CHECK.yes("rule 10: " + method.getName() + " is short", last - first < MOST_LINES);
                CHECK.yes("rule 10: " + method.getName() + " has few parameters", method.getParameters().size() <= MOST_PARAMETERS);
            }
        }
        CHECK.yes("rule 10: " + fields + " fields", fields > 0 && fields <= MOST_FIELDS);
    }

    private static void calls(Map<String, Set<String>> callsOf) {
        for (String method : callsOf.keySet()) {
            Set<String> level = Set.of(method);
            int depth = 0;
            for (; !level.isEmpty() && depth <= DEEPEST_CALL; depth++) {
                Set<String> next = new TreeSet<>();
                for (String caller : level) {
                    next.addAll(callsOf.getOrDefault(caller, Set.of()));
                }
                CHECK.no("rule 8: " + method + " comes back to itself", next.contains(method));
                level = next;
            }
            CHECK.yes("rule 10: calls from " + method + " go at most six deep", depth <= DEEPEST_CALL);
        }
    }

    /** What the file declares, and which methods each method calls. */
    private static final class Names extends TreeScanner<Void, Void> {
        final Set<String> declared = new HashSet<>();
        final Map<String, Set<String>> callsOf = new TreeMap<>();
        private String method = "a field";

        @Override
        public Void visitVariable(VariableTree node, Void none) {
            declared.add(node.getName().toString());
            return super.visitVariable(node, none);
        }

        @Override
        public Void visitMethod(MethodTree node, Void none) {
            method = node.getName().toString();
            declared.add(method);
            callsOf.put(method, new TreeSet<>());
            super.visitMethod(node, none);
            method = "a field";
            return null;
        }

        @Override
        public Void visitMethodInvocation(MethodInvocationTree node, Void none) {
            callsOf.computeIfAbsent(method, key -> new TreeSet<>()).add(node.getMethodSelect().toString());
            return super.visitMethodInvocation(node, none);
        }
    }

    /** Tells every node that a rule leaves out. */
    private static final class Forbidden extends TreeScanner<Void, Void> {
        private final Set<String> declared;
        private final List<String> methods = new ArrayList<>();
        private int argumentsAround = 0;
        private int classesAround = 0;

        Forbidden(Set<String> declared) {
            this.declared = declared;
        }

        private void rule(int number, boolean kept, Tree node) {
            CHECK.yes("rule " + number + " at '" + node + "'", kept);
        }

        @Override
        public Void visitPackage(PackageTree node, Void none) {
            rule(1, false, node);
            return null;
        }

        @Override
        public Void visitImport(ImportTree node, Void none) {
            rule(3, false, node);
            return null;
        }

        @Override
        public Void visitClass(ClassTree node, Void none) {
            CHECK.same("rule 1: classes around " + node.getSimpleName(), classesAround, 0);
            CHECK.yes("rule 3: no class beside Object above it", node.getExtendsClause() == null && node.getImplementsClause().isEmpty());
            classesAround++;
            super.visitClass(node, none);
            classesAround--;
            return null;
        }

        @Override
        public Void visitMethod(MethodTree node, Void none) {
            methods.add(node.getName().toString());
            CHECK.yes("rule 4: " + node.getName() + " answers no array",
                node.getReturnType() == null || node.getReturnType() instanceof PrimitiveTypeTree);
            super.visitMethod(node, none);
            methods.remove(methods.size() - 1);
            return null;
        }

        @Override
        public Void visitPrimitiveType(PrimitiveTypeTree node, Void none) {
            rule(2, TYPES.contains(node.getPrimitiveTypeKind()), node);
            return null;
        }

        @Override
        public Void visitLiteral(LiteralTree node, Void none) {
            rule(2, LITERALS.contains(node.getKind()), node);
            return null;
        }

        @Override
        public Void visitIdentifier(IdentifierTree node, Void none) {
            rule(3, declared.contains(node.getName().toString()), node);
            return null;
        }

        @Override
        public Void visitMemberSelect(MemberSelectTree node, Void none) {
            rule(3, node.getIdentifier().contentEquals("length"), node);
            return super.visitMemberSelect(node, none);
        }

        @Override
        public Void visitNewArray(NewArrayTree node, Void none) {
            rule(4, methods.isEmpty() || methods.contains("<init>"), node);
            rule(4, node.getInitializers() == null && node.getDimensions().size() == 1, node);
            for (Tree length : node.getDimensions()) {
                rule(4, length instanceof LiteralTree || length instanceof IdentifierTree, length);
            }
            return super.visitNewArray(node, none);
        }

        @Override
        public Void visitNewClass(NewClassTree node, Void none) {
            rule(2, false, node);
            return null;
        }

        @Override
        public Void visitMethodInvocation(MethodInvocationTree node, Void none) {
            CHECK.same("rule 10: calls around '" + node + "'", argumentsAround, 0);
            scan(node.getMethodSelect(), none);
            argumentsAround++;
            scan(node.getArguments(), none);
            argumentsAround--;
            return null;
        }

        @Override
        public Void visitThrow(ThrowTree node, Void none) {
            rule(6, false, node);
            return null;
        }

        @Override
        public Void visitTry(TryTree node, Void none) {
            rule(6, false, node);
            return null;
        }

        @Override
        public Void visitSynchronized(SynchronizedTree node, Void none) {
            rule(6, false, node);
            return null;
        }

        @Override
        public Void visitAssert(AssertTree node, Void none) {
            rule(6, false, node);
            return null;
        }

        @Override
        public Void visitInstanceOf(InstanceOfTree node, Void none) {
            rule(6, false, node);
            return null;
        }

        @Override
        public Void visitLambdaExpression(LambdaExpressionTree node, Void none) {
            rule(6, false, node);
            return null;
        }

        @Override
        public Void visitMemberReference(MemberReferenceTree node, Void none) {
            rule(6, false, node);
            return null;
        }
    }
}
