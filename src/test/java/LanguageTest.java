import com.sun.source.tree.AssertTree;
import com.sun.source.tree.BlockTree;
import com.sun.source.tree.ClassTree;
import com.sun.source.tree.CompilationUnitTree;
import com.sun.source.tree.ForLoopTree;
import com.sun.source.tree.IdentifierTree;
import com.sun.source.tree.ImportTree;
import com.sun.source.tree.LambdaExpressionTree;
import com.sun.source.tree.MemberReferenceTree;
import com.sun.source.tree.MethodInvocationTree;
import com.sun.source.tree.MethodTree;
import com.sun.source.tree.NewClassTree;
import com.sun.source.tree.SynchronizedTree;
import com.sun.source.tree.ThrowTree;
import com.sun.source.tree.Tree;
import com.sun.source.tree.TryTree;
import com.sun.source.tree.VariableTree;
import com.sun.source.tree.WhileLoopTree;
import com.sun.source.util.JavacTask;
import com.sun.source.util.TreePath;
import com.sun.source.util.TreePathScanner;
import com.sun.source.util.Trees;
import java.io.File;
import java.io.IOException;
import java.util.HashMap;
import java.util.HashSet;
import java.util.List;
import java.util.Map;
import java.util.Set;
import javax.lang.model.element.Element;
import javax.lang.model.element.ElementKind;
import javax.lang.model.element.ExecutableElement;
import javax.lang.model.element.Modifier;
import javax.lang.model.element.TypeElement;
import javax.tools.JavaCompiler;
import javax.tools.StandardJavaFileManager;
import javax.tools.ToolProvider;

/** The source keeps to LANGUAGE.md, as far as its text can tell; the face has a test of its own. */
public final class LanguageTest {
    private static final String SOURCE = "src/main/java/SoundPress.java";
    private static final Set<String> IMPORTS = Set.of(
        "java.util.Arrays", "java.util.ArrayList", "java.util.List", "java.util.Iterator");
    private static final Set<String> LIBRARY = Set.of(
        "String", "StringBuilder", "Integer", "Long", "Math", "System", "Arrays", "ArrayList", "List",
        "Iterator", "Iterable", "Comparable", "Override", "Object", "Enum", "Record");
    private static final Map<String, Set<String>> CALLS = Map.of(
        "System", Set.of("arraycopy"),
        "Arrays", Set.of("copyOf", "copyOfRange", "fill"),
        "String", Set.of("length", "charAt", "isEmpty", "equals", "indexOf", "substring", "toCharArray"),
        "StringBuilder", Set.of("append", "charAt", "setCharAt", "setLength", "deleteCharAt", "reverse", "length", "toString"));
    private static final int MOST_PARAMETERS = 7;
    private static final int MOST_LINES = 60;
    private static final int MOST_DEEP = 8;
    private static final int MOST_CLASSES = 12;
    private static final int MOST_FIELDS = 20;

    public static void main(String[] args) {
        Due.run(LanguageTest.class);
    }

    static void theSourceKeepsToTheLanguage() throws IOException {
        JavaCompiler compiler = ToolProvider.getSystemJavaCompiler();
        StandardJavaFileManager files = compiler.getStandardFileManager(null, null, null);
        JavacTask task = (JavacTask) compiler.getTask(null, files, null, List.of("-proc:none"), null,
            files.getJavaFileObjects(new File(SOURCE)));
        CompilationUnitTree unit = task.parse().iterator().next();
        task.analyze();
        Reader reader = new Reader(unit, Trees.instance(task));
        reader.scan(unit, null);
        Due.yes("rule 11: " + reader.classes + " classes", reader.classes <= MOST_CLASSES);
        for (Element method : reader.calls.keySet()) {
            int deep = reader.depth(method, new HashSet<>());
            Due.yes("rule 11: " + method + " goes " + deep + " deep", deep <= MOST_DEEP);
        }
        files.close();
    }

    private static final class Reader extends TreePathScanner<Void, Void> {
        private final CompilationUnitTree unit;
        private final Trees trees;
        private final Map<Element, Set<Element>> calls = new HashMap<>();
        private int classes = 0;
        private Element method = null;

        Reader(CompilationUnitTree unit, Trees trees) {
            this.unit = unit;
            this.trees = trees;
        }

        private long line(Tree tree) {
            return unit.getLineMap().getLineNumber(trees.getSourcePositions().getStartPosition(unit, tree));
        }

        private void ruledOut(int rule, Tree tree) {
            Due.no("rule " + rule + ": line " + line(tree) + " has " + tree.getKind(), true);
        }

        /** How many calls stand open at once from here on; what calls itself counts once. */
        int depth(Element of, Set<Element> open) {
            if (!calls.containsKey(of) || !open.add(of)) {
                return 0;
            }
            int most = 0;
            for (Element called : calls.get(of)) {
                most = Math.max(most, depth(called, open));
            }
            open.remove(of);
            return most + 1;
        }

        @Override
        public Void visitCompilationUnit(CompilationUnitTree tree, Void none) {
            Due.yes("one file without a package", tree.getPackage() == null && tree.getTypeDecls().size() == 1);
            return super.visitCompilationUnit(tree, none);
        }

        @Override
        public Void visitImport(ImportTree tree, Void none) {
            String name = tree.getQualifiedIdentifier().toString();
            Due.yes("rule 4: import of " + name, !tree.isStatic() && IMPORTS.contains(name));
            return null;
        }

        @Override
        public Void visitClass(ClassTree tree, Void none) {
            classes++;
            TreePath above = getCurrentPath().getParentPath();
            boolean inside = above != null && above.getLeaf() instanceof ClassTree;
            if (!inside && !(above.getLeaf() instanceof CompilationUnitTree)) {
                ruledOut(2, tree);
            }
            int fields = 0;
            for (Tree member : tree.getMembers()) {
                if (member instanceof BlockTree) {
                    ruledOut(5, member);
                }
                if (member instanceof VariableTree field) {
                    fields += checkField(field) ? 1 : 0;
                }
            }
            Due.yes("rule 11: " + tree.getSimpleName() + " has " + fields + " fields", fields <= MOST_FIELDS);
            return super.visitClass(tree, none);
        }

        /** Whether it is one beside the constants. */
        private boolean checkField(VariableTree field) {
            Set<Modifier> flags = field.getModifiers().getFlags();
            if (!flags.contains(Modifier.STATIC)) {
                return true;
            }
            Set<String> types = Set.of("int", "long", "boolean", "char", "String", "int[]", "long[]", "char[]", "byte[]");
            boolean fine = flags.contains(Modifier.FINAL) && types.contains(field.getType().toString());
            Element element = trees.getElement(new TreePath(getCurrentPath(), field));
            fine |= element.getKind() == ElementKind.ENUM_CONSTANT;
            Due.yes("rule 5: static field " + field.getName(), fine);
            return false;
        }

        @Override
        public Void visitMethod(MethodTree tree, Void none) {
            Element outer = method;
            method = trees.getElement(getCurrentPath());
            calls.putIfAbsent(method, new HashSet<>());
            Due.yes("rule 11: parameters of " + tree.getName(), tree.getParameters().size() <= MOST_PARAMETERS);
            long from = line(tree);
            long to = unit.getLineMap().getLineNumber(trees.getSourcePositions().getEndPosition(unit, tree));
            Due.yes("rule 11: " + tree.getName() + " has " + (to - from + 1) + " lines", to - from < MOST_LINES);
            super.visitMethod(tree, none);
            method = outer;
            return null;
        }

        @Override
        public Void visitMethodInvocation(MethodInvocationTree tree, Void none) {
            checkCall(trees.getElement(getCurrentPath()), tree);
            return super.visitMethodInvocation(tree, none);
        }

        @Override
        public Void visitNewClass(NewClassTree tree, Void none) {
            if (tree.getClassBody() != null) {
                ruledOut(2, tree);
            }
            checkCall(trees.getElement(getCurrentPath()), tree);
            return super.visitNewClass(tree, none);
        }

        private void checkCall(Element called, Tree tree) {
            if (!(called instanceof ExecutableElement)) {
                return;
            }
            TypeElement type = (TypeElement) called.getEnclosingElement();
            String name = type.getQualifiedName().toString();
            if (name.startsWith("java.")) {
                Set<String> allowed = CALLS.get(type.getSimpleName().toString());
                String call = called.getSimpleName().toString();
                boolean fine = LIBRARY.contains(type.getSimpleName().toString()) && !call.endsWith("Exact")
                    && (allowed == null || allowed.contains(call) || call.equals("<init>"));
                Due.yes("rule 4: line " + line(tree) + " calls " + name + "." + call, fine);
            } else if (method != null) {
                calls.get(method).add(called);
            }
        }

        @Override
        public Void visitIdentifier(IdentifierTree tree, Void none) {
            Element element = trees.getElement(getCurrentPath());
            if (element instanceof TypeElement type && type.getQualifiedName().toString().startsWith("java.")) {
                Due.yes("rule 3: line " + line(tree) + " names " + type, LIBRARY.contains(type.getSimpleName().toString()));
            }
            return super.visitIdentifier(tree, none);
        }

        @Override
        public Void visitLambdaExpression(LambdaExpressionTree tree, Void none) {
            ruledOut(2, tree);
            return null;
        }

        @Override
        public Void visitMemberReference(MemberReferenceTree tree, Void none) {
            ruledOut(2, tree);
            return null;
        }

        @Override
        public Void visitThrow(ThrowTree tree, Void none) {
            ruledOut(6, tree);
            return null;
        }

        @Override
        public Void visitTry(TryTree tree, Void none) {
            ruledOut(6, tree);
            return null;
        }

        @Override
        public Void visitSynchronized(SynchronizedTree tree, Void none) {
            ruledOut(6, tree);
            return null;
        }

        @Override
        public Void visitAssert(AssertTree tree, Void none) {
            ruledOut(6, tree);
            return null;
        }

        @Override
        public Void visitForLoop(ForLoopTree tree, Void none) {
            if (tree.getCondition() == null) {
                ruledOut(9, tree);
            }
            return super.visitForLoop(tree, none);
        }

        @Override
        public Void visitWhileLoop(WhileLoopTree tree, Void none) {
            if (tree.getCondition().toString().equals("(true)")) {
                ruledOut(9, tree);
            }
            return super.visitWhileLoop(tree, none);
        }
    }
}
