import com.sun.source.tree.AssertTree;
import com.sun.source.tree.BlockTree;
import com.sun.source.tree.CatchTree;
import com.sun.source.tree.ClassTree;
import com.sun.source.tree.CompilationUnitTree;
import com.sun.source.tree.ExpressionTree;
import com.sun.source.tree.ImportTree;
import com.sun.source.tree.InstanceOfTree;
import com.sun.source.tree.LambdaExpressionTree;
import com.sun.source.tree.LiteralTree;
import com.sun.source.tree.MemberReferenceTree;
import com.sun.source.tree.MethodInvocationTree;
import com.sun.source.tree.MethodTree;
import com.sun.source.tree.NewArrayTree;
import com.sun.source.tree.NewClassTree;
import com.sun.source.tree.SynchronizedTree;
import com.sun.source.tree.ThrowTree;
import com.sun.source.tree.Tree;
import com.sun.source.tree.TryTree;
import com.sun.source.tree.TypeCastTree;
import com.sun.source.tree.VariableTree;
import com.sun.source.util.JavacTask;
import com.sun.source.util.TreePath;
import com.sun.source.util.TreePathScanner;
import com.sun.source.util.Trees;
import java.nio.file.Path;
import java.util.HashMap;
import java.util.HashSet;
import java.util.LinkedHashMap;
import java.util.LinkedHashSet;
import java.util.List;
import java.util.Map;
import java.util.Set;
import javax.lang.model.element.Element;
import javax.lang.model.element.Modifier;
import javax.lang.model.element.TypeElement;
import javax.lang.model.type.TypeMirror;
import javax.tools.JavaCompiler;
import javax.tools.StandardJavaFileManager;
import javax.tools.ToolProvider;

/**
 * Reads the class with the compiler's own trees and looks at those rules of LANGUAGE.md that can be
 * told from the text, as strictly as the class keeps them now: what it doesn't use at all (try, lists,
 * records, own texts) is refused here, though a rule may allow it; whoever comes to need it widens this.
 */
public final class LanguageTest {
    private static final Path MAIN = Path.of("src/main/java/BernoulliWays.java");
    private static final Set<String> LIBRARY = Set.of(
        "Math.abs", "Math.floorDiv", "Math.floorMod", "Math.max", "Math.min", "Arrays.fill",
        "System.arraycopy");
    private static final Set<String> TYPES = Set.of("int", "long", "boolean", "int[]", "long[]", "void");
    private static final Set<String> THROWN = Set.of("NoSuchElementException");
    private static final int MOST_CLASSES = 12;
    private static final int MOST_FIELDS = 20;
    private static final int MOST_LINES = 60;
    private static final int MOST_PARAMETERS = 7;
    private static final int DEEPEST = 8;

    private static int wrong = 0;

    public static void main(String[] args) throws Exception {
        JavaCompiler compiler = ToolProvider.getSystemJavaCompiler();
        try (StandardJavaFileManager files = compiler.getStandardFileManager(null, null, null)) {
            JavacTask task = (JavacTask) compiler.getTask(null, files, null, List.of("-proc:none"), null,
                files.getJavaFileObjects(MAIN));
            CompilationUnitTree unit = task.parse().iterator().next();
            task.analyze();
            Reader reader = new Reader(Trees.instance(task), unit);
            reader.scan(unit, null);
            lookAtCalls(reader.callsOf);
            must(reader.classes <= MOST_CLASSES, "11: " + reader.classes + " classes");
            must(unit.getPackageName() == null, "a package line");
            must(unit.getTypeDecls().size() == 1, "1: more than one class in the file");
        }
        System.out.println(wrong == 0 ? "the language is as due" : wrong + " faults of the language");
        if (wrong != 0) {
            System.exit(1);
        }
    }

    private static void must(boolean holds, String what) {
        if (!holds) {
            wrong++;
            System.out.println("rule " + what);
        }
    }

    // ---- how deep calls go -----------------------------------------------------------------

    private static void lookAtCalls(Map<String, Set<String>> callsOf) {
        Map<String, Integer> depths = new HashMap<>();
        for (String method : callsOf.keySet()) {
            int depth = depthOf(method, callsOf, depths, new LinkedHashSet<>());
            must(depth <= DEEPEST, "11: calls go " + depth + " deep from " + method);
        }
    }

    private static int depthOf(String method, Map<String, Set<String>> callsOf, Map<String, Integer> depths,
            Set<String> open) {
        if (!callsOf.containsKey(method)) {
            return 1;
        }
        if (depths.containsKey(method)) {
            return depths.get(method);
        }
        if (!open.add(method)) {
            must(false, "8: recursion through " + open);
            return 1;
        }
        int deepest = 0;
        for (String called : callsOf.get(method)) {
            deepest = Math.max(deepest, depthOf(called, callsOf, depths, open));
        }
        open.remove(method);
        depths.put(method, deepest + 1);
        return deepest + 1;
    }

    // ---- what stands in the text -----------------------------------------------------------

    private static final class Reader extends TreePathScanner<Void, Void> {
        private final Trees trees;
        private final CompilationUnitTree unit;
        private final Map<String, Set<String>> callsOf = new LinkedHashMap<>();
        private final Set<String> own = new HashSet<>();
        private int classes = 0;

        Reader(Trees trees, CompilationUnitTree unit) {
            this.trees = trees;
            this.unit = unit;
            collectOwn();
        }

        private void collectOwn() {
            ClassTree outer = (ClassTree) unit.getTypeDecls().get(0);
            own.add(outer.getSimpleName().toString());
            for (Tree member : outer.getMembers()) {
                if (member instanceof ClassTree inside) {
                    own.add(outer.getSimpleName() + "." + inside.getSimpleName());
                }
            }
        }

        private String where(Tree tree) {
            long start = trees.getSourcePositions().getStartPosition(unit, tree);
            return " (line " + unit.getLineMap().getLineNumber(start) + ")";
        }

        private long linesOf(Tree tree) {
            long start = trees.getSourcePositions().getStartPosition(unit, tree);
            long end = trees.getSourcePositions().getEndPosition(unit, tree);
            return unit.getLineMap().getLineNumber(end) - unit.getLineMap().getLineNumber(start) + 1;
        }

        private void refuse(String what, Tree tree) {
            must(false, what + where(tree));
        }

        private Tree parent() {
            return getCurrentPath().getParentPath().getLeaf();
        }

        private MethodTree around() {
            for (TreePath path = getCurrentPath(); path != null; path = path.getParentPath()) {
                if (path.getLeaf() instanceof MethodTree method) {
                    return method;
                }
            }
            return null;
        }

        private static boolean isConstructor(MethodTree method) {
            return method.getName().contentEquals("<init>");
        }

        private static String told(Element method) {
            return method.getEnclosingElement() + "." + method;
        }

        // ---- rules 1 to 5 and 11: classes, fields, methods ----

        @Override
        public Void visitImport(ImportTree node, Void nothing) {
            String name = node.getQualifiedIdentifier().toString();
            must(Set.of("java.util.Arrays", "java.util.NoSuchElementException").contains(name),
                "4: import of " + name);
            return super.visitImport(node, nothing);
        }

        @Override
        public Void visitClass(ClassTree node, Void nothing) {
            classes++;
            Set<Modifier> flags = node.getModifiers().getFlags();
            boolean outer = parent() instanceof CompilationUnitTree;
            must(node.getKind() == Tree.Kind.CLASS && !node.getSimpleName().toString().isEmpty(),
                "2: not a plain class" + where(node));
            must(flags.contains(Modifier.FINAL), "2: a class that isn't final" + where(node));
            must(outer || parent() instanceof ClassTree && flags.contains(Modifier.STATIC)
                && flags.contains(Modifier.PRIVATE), "1: a class inside that isn't private, static" + where(node));
            must(node.getExtendsClause() == null && node.getImplementsClause().isEmpty(),
                "2: a class above it" + where(node));
            long fields = node.getMembers().stream().filter(member -> member instanceof VariableTree field
                && !field.getModifiers().getFlags().contains(Modifier.STATIC)).count();
            must(fields <= MOST_FIELDS, "11: " + fields + " fields" + where(node));
            for (Tree member : node.getMembers()) {
                must(!(member instanceof BlockTree), "5: an initialiser block" + where(member));
            }
            return super.visitClass(node, nothing);
        }

        @Override
        public Void visitVariable(VariableTree node, Void nothing) {
            String type = trees.getTypeMirror(getCurrentPath()).toString();
            must(TYPES.contains(type) || own.contains(type), "3: the type " + type + where(node));
            if (parent() instanceof ClassTree && node.getModifiers().getFlags().contains(Modifier.STATIC)) {
                lookAtConstant(node, type);
            }
            return super.visitVariable(node, nothing);
        }

        private void lookAtConstant(VariableTree node, String type) {
            must(node.getModifiers().getFlags().contains(Modifier.FINAL), "5: static, not final" + where(node));
            must(Set.of("int", "long", "int[]").contains(type), "5: a constant of " + type + where(node));
            must(!type.equals("int[]") || node.getInitializer() instanceof NewArrayTree,
                "5: a row that isn't written out" + where(node));
            must(node.getName().toString().equals(node.getName().toString().toUpperCase()),
                "a constant's name" + where(node));
        }

        @Override
        public Void visitMethod(MethodTree node, Void nothing) {
            Element method = trees.getElement(getCurrentPath());
            callsOf.computeIfAbsent(told(method), key -> new LinkedHashSet<>());
            must(node.getParameters().size() <= MOST_PARAMETERS, "11: too many parameters" + where(node));
            // a constructor that isn't written has no line of its own
            must(linesOf(node.getBody()) <= MOST_LINES, "11: a long method" + where(node));
            must(node.getReturnType() == null || TYPES.contains(node.getReturnType().toString()),
                "3: what a method answers" + where(node));
            return super.visitMethod(node, nothing);
        }

        // ---- rules 4, 6, 8, 12: calls, what is made, what is thrown ----

        @Override
        public Void visitMethodInvocation(MethodInvocationTree node, Void nothing) {
            Element called = trees.getElement(new TreePath(getCurrentPath(), node.getMethodSelect()));
            TypeElement owner = (TypeElement) called.getEnclosingElement();
            boolean isOwn = own.contains(owner.getQualifiedName().toString());
            String name = owner.getSimpleName() + "." + called.getSimpleName();
            boolean isSuper = node.getMethodSelect().toString().equals("super");
            must(isOwn || isSuper || LIBRARY.contains(name), "4: not in the library: " + name + where(node));
            MethodTree around = around();
            if (around != null && !isSuper) {
                Element caller = trees.getElement(trees.getPath(unit, around));
                callsOf.computeIfAbsent(told(caller), key -> new LinkedHashSet<>()).add(told(called));
            }
            return super.visitMethodInvocation(node, nothing);
        }

        @Override
        public Void visitNewClass(NewClassTree node, Void nothing) {
            must(node.getClassBody() == null, "2: a class without a name" + where(node));
            must(parent() instanceof ThrowTree || parent() instanceof VariableTree && around() == null,
                "12: an object made by a call" + where(node));
            return super.visitNewClass(node, nothing);
        }

        @Override
        public Void visitNewArray(NewArrayTree node, Void nothing) {
            must(around() == null, "12: a row made by a call" + where(node));
            must(node.getDimensions().size() <= 1, "3: a row of rows" + where(node));
            return super.visitNewArray(node, nothing);
        }

        @Override
        public Void visitThrow(ThrowTree node, Void nothing) {
            ExpressionTree thrown = node.getExpression();
            boolean allowed = thrown instanceof NewClassTree made
                && THROWN.contains(made.getIdentifier().toString())
                && made.getArguments().stream().allMatch(each -> each instanceof LiteralTree);
            must(allowed, "6: " + node + where(node));
            must(!isConstructor(around()), "6: a throw in a constructor" + where(node));
            return super.visitThrow(node, nothing);
        }

        @Override
        public Void visitLiteral(LiteralTree node, Void nothing) {
            must(!(node.getValue() instanceof Double || node.getValue() instanceof Float),
                "3: no number with a point is needed here" + where(node));
            return super.visitLiteral(node, nothing);
        }

        @Override
        public Void visitTypeCast(TypeCastTree node, Void nothing) {
            TypeMirror type = trees.getTypeMirror(new TreePath(getCurrentPath(), node.getType()));
            must(type.getKind().isPrimitive(), "7: a cast to " + type + where(node));
            return super.visitTypeCast(node, nothing);
        }

        // ---- rules 2 and 6: what isn't there at all ----

        @Override
        public Void visitTry(TryTree node, Void nothing) {
            refuse("6: try", node);
            return super.visitTry(node, nothing);
        }

        @Override
        public Void visitCatch(CatchTree node, Void nothing) {
            refuse("6: catch", node);
            return super.visitCatch(node, nothing);
        }

        @Override
        public Void visitSynchronized(SynchronizedTree node, Void nothing) {
            refuse("6: synchronized", node);
            return super.visitSynchronized(node, nothing);
        }

        @Override
        public Void visitAssert(AssertTree node, Void nothing) {
            refuse("6: assert", node);
            return super.visitAssert(node, nothing);
        }

        @Override
        public Void visitInstanceOf(InstanceOfTree node, Void nothing) {
            refuse("6: instanceof", node);
            return super.visitInstanceOf(node, nothing);
        }

        @Override
        public Void visitLambdaExpression(LambdaExpressionTree node, Void nothing) {
            refuse("2: a lambda", node);
            return super.visitLambdaExpression(node, nothing);
        }

        @Override
        public Void visitMemberReference(MemberReferenceTree node, Void nothing) {
            refuse("2: a method reference", node);
            return super.visitMemberReference(node, nothing);
        }
    }
}
