import com.sun.source.tree.AnnotationTree;
import com.sun.source.tree.AssertTree;
import com.sun.source.tree.AssignmentTree;
import com.sun.source.tree.BinaryTree;
import com.sun.source.tree.BlockTree;
import com.sun.source.tree.ClassTree;
import com.sun.source.tree.CompilationUnitTree;
import com.sun.source.tree.DoWhileLoopTree;
import com.sun.source.tree.EnhancedForLoopTree;
import com.sun.source.tree.ForLoopTree;
import com.sun.source.tree.LambdaExpressionTree;
import com.sun.source.tree.MemberReferenceTree;
import com.sun.source.tree.MethodInvocationTree;
import com.sun.source.tree.MethodTree;
import com.sun.source.tree.NewArrayTree;
import com.sun.source.tree.NewClassTree;
import com.sun.source.tree.SynchronizedTree;
import com.sun.source.tree.ThrowTree;
import com.sun.source.tree.Tree;
import com.sun.source.tree.TryTree;
import com.sun.source.tree.TypeCastTree;
import com.sun.source.tree.VariableTree;
import com.sun.source.tree.WhileLoopTree;
import com.sun.source.util.JavacTask;
import com.sun.source.util.TreePath;
import com.sun.source.util.TreePathScanner;
import com.sun.source.util.Trees;
import java.nio.file.Path;
import java.util.ArrayList;
import java.util.HashMap;
import java.util.HashSet;
import java.util.List;
import java.util.Map;
import java.util.Set;
import java.util.TreeSet;
import javax.lang.model.element.Element;
import javax.lang.model.element.ElementKind;
import javax.lang.model.element.Modifier;
import javax.tools.JavaCompiler;
import javax.tools.StandardJavaFileManager;
import javax.tools.ToolProvider;

/** The rules of LANGUAGE.md, looked for in the source as the compiler reads it. */
public final class RulesTest {
    private static final Path SOURCE = Path.of("src/main/java/BackCourt.java");
    private static final Set<String> LIBRARY = Set.of("Integer.bitCount", "Math.max", "Math.min", "System.arraycopy");
    private static final Set<String> PLAIN = Set.of("int", "long", "short", "byte", "char", "boolean");
    private static final int DEEPEST = 8, LONGEST = 60, CLASSES = 12, FIELDS = 20, PARAMETERS = 7;

    public static void main(String[] args) throws Exception {
        JavaCompiler compiler = ToolProvider.getSystemJavaCompiler();
        StandardJavaFileManager files = compiler.getStandardFileManager(null, null, null);
        JavacTask task = (JavacTask) compiler.getTask(null, files, null, List.of("-proc:none"), null,
                files.getJavaFileObjects(SOURCE));
        List<CompilationUnitTree> units = new ArrayList<>();
        task.parse().forEach(units::add);
        task.analyze();
        Check.due("one file", units.size(), 1);
        CompilationUnitTree unit = units.get(0);
        Check.holds("no package line, no import", unit.getPackageName() == null && unit.getImports().isEmpty());
        Check.due("one class of the file", unit.getTypeDecls().size(), 1);
        Reader reader = new Reader(unit, Trees.instance(task));
        reader.scan(unit, null);
        Check.holds("rule 11: some twelve classes", reader.own.size() <= CLASSES);
        Check.holds("rule 3: types are " + reader.types, reader.types.stream().allMatch(reader::isOfRule3));
        reader.lookAtCalls();
        Check.end();
    }

    private static final class Reader extends TreePathScanner<Void, Void> {
        private final CompilationUnitTree unit;
        private final Trees trees;
        final Set<String> own = new TreeSet<>();
        final Set<String> types = new TreeSet<>();
        private final Map<Element, Set<Element>> calls = new HashMap<>();
        private Element method = null;

        /** Classes are named first, as some are used ahead of where they stand. */
        Reader(CompilationUnitTree unit, Trees trees) {
            this.unit = unit;
            this.trees = trees;
            for (Tree type : unit.getTypeDecls()) {
                ClassTree outer = (ClassTree) type;
                own.add(outer.getSimpleName().toString());
                for (Tree member : outer.getMembers()) {
                    if (member instanceof ClassTree inside) {
                        own.add(inside.getSimpleName().toString());
                    }
                }
            }
        }

        private long line(Tree tree) {
            return unit.getLineMap().getLineNumber(trees.getSourcePositions().getStartPosition(unit, tree));
        }

        private long lastLine(Tree tree) {
            return unit.getLineMap().getLineNumber(trees.getSourcePositions().getEndPosition(unit, tree));
        }

        private void never(String rule, Tree tree) {
            Check.holds(rule + ", line " + line(tree) + ": " + tree.getKind(), false);
        }

        boolean isOfRule3(String type) {
            String one = type.replace("[]", "");
            int dimensions = (type.length() - one.length()) / 2;
            return PLAIN.contains(one) ? dimensions <= 2 : own.contains(one) ? dimensions <= 1 : one.equals("void");
        }

        @Override
        public Void visitClass(ClassTree tree, Void nothing) {
            String name = tree.getSimpleName().toString();
            Tree parent = getCurrentPath().getParentPath().getLeaf();
            boolean isOuter = parent instanceof CompilationUnitTree;
            boolean isInside = parent instanceof ClassTree && tree.getModifiers().getFlags().contains(Modifier.STATIC);
            Check.holds("rule 2: " + name + " is the class or static in it", isOuter || isInside);
            Check.holds("rule 1: " + name + " is not public", isOuter || !tree.getModifiers().getFlags().contains(Modifier.PUBLIC));
            int fields = 0;
            for (Tree member : tree.getMembers()) {
                if (member instanceof VariableTree field) {
                    fields += field.getModifiers().getFlags().contains(Modifier.STATIC) ? 0 : 1;
                    lookAtStatic(field);
                }
                Check.holds("rule 5: no initialiser block in " + name, !(member instanceof BlockTree));
            }
            Check.holds("rule 11: " + name + " has " + fields + " fields", fields <= FIELDS);
            return super.visitClass(tree, nothing);
        }

        private void lookAtStatic(VariableTree field) {
            Set<Modifier> flags = field.getModifiers().getFlags();
            if (flags.contains(Modifier.STATIC)) {
                Check.holds("rule 5: " + field.getName() + " is final", flags.contains(Modifier.FINAL));
                boolean isWrittenOut = !(field.getInitializer() instanceof NewArrayTree made) || made.getInitializers() != null;
                Check.holds("rule 5: " + field.getName() + " is written out", field.getInitializer() != null && isWrittenOut);
            }
        }

        @Override
        public Void visitMethod(MethodTree tree, Void nothing) {
            Element before = method;
            method = trees.getElement(getCurrentPath());
            calls.put(method, new HashSet<>());
            Check.holds("rule 11: parameters of " + tree.getName(), tree.getParameters().size() <= PARAMETERS);
            Check.holds("rule 11: lines of " + tree.getName(), lastLine(tree) - line(tree) < LONGEST);
            Check.holds("rule 6: " + tree.getName() + " throws nothing", tree.getThrows().isEmpty());
            if (tree.getReturnType() != null) {
                types.add(tree.getReturnType().toString());
            }
            super.visitMethod(tree, nothing);
            method = before;
            return null;
        }

        @Override
        public Void visitVariable(VariableTree tree, Void nothing) {
            types.add(tree.getType().toString());
            return super.visitVariable(tree, nothing);
        }

        @Override
        public Void visitMethodInvocation(MethodInvocationTree tree, Void nothing) {
            Element called = trees.getElement(new TreePath(getCurrentPath(), tree.getMethodSelect()));
            boolean isOwn = called != null && own.contains(called.getEnclosingElement().getSimpleName().toString());
            boolean isOfObject = called != null && called.getKind() == ElementKind.CONSTRUCTOR;
            if (method != null && isOwn) {
                calls.get(method).add(called);
            }
            Check.holds("rule 4: " + tree.getMethodSelect(), isOwn || isOfObject || LIBRARY.contains(tree.getMethodSelect().toString()));
            return super.visitMethodInvocation(tree, nothing);
        }

        /** Fields are filled by what the object's making does; calls make no object at all. */
        @Override
        public Void visitNewClass(NewClassTree tree, Void nothing) {
            Check.holds("rule 2: no class without a name, line " + line(tree), tree.getClassBody() == null);
            Check.holds("rule 12: an object is made with another one, line " + line(tree), isMaking());
            return super.visitNewClass(tree, nothing);
        }

        @Override
        public Void visitNewArray(NewArrayTree tree, Void nothing) {
            Check.holds("rule 12: an array is made with an object, line " + line(tree), isMaking());
            return super.visitNewArray(tree, nothing);
        }

        private boolean isMaking() {
            return method == null || method.getKind() == ElementKind.CONSTRUCTOR;
        }

        @Override
        public Void visitForLoop(ForLoopTree tree, Void nothing) {
            Check.holds("rule 9: a bound, line " + line(tree), tree.getCondition() != null && !tree.getUpdate().isEmpty());
            return super.visitForLoop(tree, nothing);
        }

        @Override
        public Void visitWhileLoop(WhileLoopTree tree, Void nothing) {
            Check.holds("rule 9: a bound, line " + line(tree), tree.getCondition().toString().contains("<"));
            return super.visitWhileLoop(tree, nothing);
        }

        @Override
        public Void visitDoWhileLoop(DoWhileLoopTree tree, Void nothing) {
            Check.holds("rule 9: a bound, line " + line(tree), tree.getCondition().toString().contains("<"));
            return super.visitDoWhileLoop(tree, nothing);
        }

        /** The only constant array: it is looked at, never laid into. */
        @Override
        public Void visitAssignment(AssignmentTree tree, Void nothing) {
            Check.holds("rule 5: no constant changes, line " + line(tree), !tree.getVariable().toString().matches("[A-Z_]+(\\[.*)?"));
            return super.visitAssignment(tree, nothing);
        }

        @Override
        public Void visitBinary(BinaryTree tree, Void nothing) {
            boolean isText = trees.getTypeMirror(getCurrentPath()).toString().contains("String");
            Check.holds("rule 10: no text is joined, line " + line(tree), !isText);
            return super.visitBinary(tree, nothing);
        }

        @Override
        public Void visitTypeCast(TypeCastTree tree, Void nothing) {
            Check.holds("rule 6: a cast of numbers, line " + line(tree), PLAIN.contains(tree.getType().toString()));
            return super.visitTypeCast(tree, nothing);
        }

        @Override
        public Void visitEnhancedForLoop(EnhancedForLoopTree tree, Void nothing) {
            Check.holds("rule 12: no iterator, line " + line(tree), false);
            return super.visitEnhancedForLoop(tree, nothing);
        }

        @Override
        public Void visitThrow(ThrowTree tree, Void nothing) {
            never("rule 6", tree);
            return null;
        }

        @Override
        public Void visitTry(TryTree tree, Void nothing) {
            never("rule 6", tree);
            return null;
        }

        @Override
        public Void visitSynchronized(SynchronizedTree tree, Void nothing) {
            never("rule 6", tree);
            return null;
        }

        @Override
        public Void visitAssert(AssertTree tree, Void nothing) {
            never("rule 6", tree);
            return null;
        }

        @Override
        public Void visitLambdaExpression(LambdaExpressionTree tree, Void nothing) {
            never("rule 2", tree);
            return null;
        }

        @Override
        public Void visitMemberReference(MemberReferenceTree tree, Void nothing) {
            never("rule 2", tree);
            return null;
        }

        @Override
        public Void visitAnnotation(AnnotationTree tree, Void nothing) {
            never("rule 4", tree);
            return null;
        }

        void lookAtCalls() {
            for (Element from : calls.keySet()) {
                Set<Element> reached = new HashSet<>();
                calls.get(from).forEach(to -> reach(to, reached));
                // None needs recursion; one that would must be of a form that rule 8 names, with its depth looked at here.
                Check.holds("rule 8: " + from + " does not come to itself", !reached.contains(from));
                int depth = depth(from, DEEPEST);
                Check.holds("rule 11: calls of " + from + " go " + depth + " deep", depth <= DEEPEST);
            }
        }

        private void reach(Element to, Set<Element> reached) {
            if (reached.add(to)) {
                calls.getOrDefault(to, Set.of()).forEach(next -> reach(next, reached));
            }
        }

        /** Looks no further than one level past what is right, so that it ends for recursion, too. */
        private int depth(Element from, int further) {
            int deepest = 0;
            for (Element to : further == 0 ? Set.<Element>of() : calls.getOrDefault(from, Set.of())) {
                deepest = Math.max(deepest, depth(to, further - 1));
            }
            return deepest + 1;
        }
    }
}
