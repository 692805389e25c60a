import com.sun.source.tree.ArrayTypeTree;
import com.sun.source.tree.AssertTree;
import com.sun.source.tree.BinaryTree;
import com.sun.source.tree.ClassTree;
import com.sun.source.tree.CompilationUnitTree;
import com.sun.source.tree.LambdaExpressionTree;
import com.sun.source.tree.MemberReferenceTree;
import com.sun.source.tree.MethodInvocationTree;
import com.sun.source.tree.MethodTree;
import com.sun.source.tree.NewArrayTree;
import com.sun.source.tree.NewClassTree;
import com.sun.source.tree.SynchronizedTree;
import com.sun.source.tree.ThrowTree;
import com.sun.source.tree.Tree;
import com.sun.source.tree.TryTree;
import com.sun.source.util.JavacTask;
import com.sun.source.util.TreePathScanner;
import com.sun.source.util.Trees;
import java.io.IOException;
import java.nio.file.Path;
import java.util.ArrayDeque;
import java.util.Deque;
import java.util.HashSet;
import java.util.List;
import java.util.Map;
import java.util.Set;
import java.util.TreeMap;
import java.util.TreeSet;
import javax.lang.model.element.Element;
import javax.lang.model.element.ExecutableElement;
import javax.lang.model.element.TypeElement;
import javax.tools.JavaCompiler;
import javax.tools.StandardJavaFileManager;
import javax.tools.ToolProvider;

/** The rules 3, 4, 6, 8, 11 and 12 of LANGUAGE.md as the compiler reads the class: its calls, how deep they go, what it makes. */
public final class CallsTest {
    private static final Set<String> LIBRARY = Set.of("java.lang.System.arraycopy", "java.util.Arrays.fill", "java.lang.Math.max",
        "java.lang.Math.min", "java.lang.Math.abs", "java.lang.Integer.bitCount", "java.lang.Long.bitCount");
    private static final int DEEPEST = 8;
    private static final int LONGEST = 60;

    private static final Due DUE = new Due();
    private static final Map<String, Set<String>> CALLS = new TreeMap<>();

    public static void main(String[] args) throws IOException {
        Path file = Path.of(System.getProperty("project.root", "."), "src/main/java/SecondHas.java");
        JavaCompiler compiler = ToolProvider.getSystemJavaCompiler();
        try (StandardJavaFileManager files = compiler.getStandardFileManager(null, null, null)) {
            JavacTask task = (JavacTask) compiler.getTask(null, files, null, List.of("-proc:none"), null, files.getJavaFileObjects(file));
            Iterable<? extends CompilationUnitTree> units = task.parse();
            task.analyze();
            for (CompilationUnitTree unit : units) {
                new Reader(Trees.instance(task), unit).scan(unit, null);
            }
        }
        depths();
        DUE.end("CallsTest");
    }

    /** Goes over the class and asks of each thing in it whether the rules leave it. */
    private static final class Reader extends TreePathScanner<Void, Void> {
        private final Trees trees;
        private final CompilationUnitTree unit;
        private final Deque<String> within = new ArrayDeque<>();
        private boolean isConstructor;

        Reader(Trees trees, CompilationUnitTree unit) {
            this.trees = trees;
            this.unit = unit;
        }

        private long line(Tree tree) {
            return unit.getLineMap().getLineNumber(trees.getSourcePositions().getStartPosition(unit, tree));
        }

        private void not(String what, Tree tree) {
            DUE.is(what + " in line " + line(tree), true, false);
        }

        private static String name(Element member) {
            return ((TypeElement) member.getEnclosingElement()).getQualifiedName() + "." + member.getSimpleName();
        }

        @Override
        public Void visitClass(ClassTree tree, Void none) {
            boolean inside = trees.getElement(getCurrentPath()).getEnclosingElement() instanceof TypeElement;
            String flags = tree.getModifiers().getFlags().toString();
            DUE.is(tree.getSimpleName() + " " + flags, flags, inside ? "[private, static, final]" : "[public, final]");
            return super.visitClass(tree, none);
        }

        @Override
        public Void visitMethod(MethodTree tree, Void none) {
            String name = name(trees.getElement(getCurrentPath()));
            isConstructor = name.endsWith("<init>");
            boolean written = !isConstructor || trees.getSourcePositions().getEndPosition(unit, tree) >= 0;
            if (written) {
                long last = unit.getLineMap().getLineNumber(trees.getSourcePositions().getEndPosition(unit, tree));
                DUE.is(name + " is short", last - line(tree) < LONGEST, true);
            }
            DUE.is(name + " takes seven at most", tree.getParameters().size() <= 7, true);
            CALLS.computeIfAbsent(name, k -> new TreeSet<>());
            within.push(name);
            super.visitMethod(tree, none);
            within.pop();
            isConstructor = false;
            return null;
        }

        @Override
        public Void visitMethodInvocation(MethodInvocationTree tree, Void none) {
            ExecutableElement called = (ExecutableElement) trees.getElement(getCurrentPath());
            String name = name(called);
            boolean own = name.startsWith("SecondHas");
            boolean object = isConstructor && name.equals("java.lang.Object.<init>");
            DUE.is("line " + line(tree) + ": " + name, own || object || LIBRARY.contains(name), true);
            if (own && !within.isEmpty()) {
                CALLS.get(within.peek()).add(name);
            }
            return super.visitMethodInvocation(tree, none);
        }

        @Override
        public Void visitNewClass(NewClassTree tree, Void none) {
            String name = trees.getElement(getCurrentPath()).getEnclosingElement().toString();
            boolean thrown = name.equals("java.util.NoSuchElementException");
            DUE.is("made in line " + line(tree) + ": " + name, thrown || within.isEmpty() || isConstructor, true);
            return super.visitNewClass(tree, none);
        }

        @Override
        public Void visitNewArray(NewArrayTree tree, Void none) {
            DUE.is("a row made in line " + line(tree), within.isEmpty() || isConstructor, true);
            return super.visitNewArray(tree, none);
        }

        @Override
        public Void visitArrayType(ArrayTypeTree tree, Void none) {
            DUE.is("of one dimension in line " + line(tree), tree.getType().getKind() == Tree.Kind.PRIMITIVE_TYPE, true);
            return super.visitArrayType(tree, none);
        }

        @Override
        public Void visitThrow(ThrowTree tree, Void none) {
            DUE.is("thrown by " + within.peek(), within.peek(), "SecondHas.striver");
            return super.visitThrow(tree, none);
        }

        @Override
        public Void visitBinary(BinaryTree tree, Void none) {
            boolean text = trees.getTypeMirror(getCurrentPath()).toString().equals("java.lang.String");
            DUE.is("texts joined by + in line " + line(tree), text, false);
            return super.visitBinary(tree, none);
        }

        @Override
        public Void visitTry(TryTree tree, Void none) {
            not("try", tree);
            return null;
        }

        @Override
        public Void visitLambdaExpression(LambdaExpressionTree tree, Void none) {
            not("lambda", tree);
            return null;
        }

        @Override
        public Void visitMemberReference(MemberReferenceTree tree, Void none) {
            not("method reference", tree);
            return null;
        }

        @Override
        public Void visitSynchronized(SynchronizedTree tree, Void none) {
            not("synchronized", tree);
            return null;
        }

        @Override
        public Void visitAssert(AssertTree tree, Void none) {
            not("assert", tree);
            return null;
        }
    }

    // ---- how deep

    private static Set<String> reached(String from) {
        Set<String> reached = new HashSet<>();
        Deque<String> todo = new ArrayDeque<>(CALLS.get(from));
        while (!todo.isEmpty()) {
            String one = todo.pop();
            if (reached.add(one)) {
                todo.addAll(CALLS.get(one));
            }
        }
        return reached;
    }

    /** The longest way of calls; what calls itself by some way counts once, and the way goes on from all of its kind. */
    private static int depth(String from) {
        Set<String> ring = new HashSet<>(Set.of(from));
        for (String one : reached(from)) {
            if (reached(one).contains(from)) {
                ring.add(one);
            }
        }
        int deepest = 0;
        for (String one : ring) {
            for (String called : CALLS.get(one)) {
                deepest = ring.contains(called) ? deepest : Math.max(deepest, depth(called));
            }
        }
        return deepest + 1;
    }

    private static void depths() {
        Set<String> recursive = new TreeSet<>();
        for (String name : CALLS.keySet()) {
            DUE.is(name + " goes " + depth(name) + " deep", depth(name) <= DEEPEST, true);
            if (reached(name).contains(name)) {
                recursive.add(name);
            }
        }
        Set<String> guarded = Set.of("SecondHas.Rules.readCondition", "SecondHas.Rules.readUnit", "SecondHas.Rules.readOpened",
            "SecondHas.Rules.readSum", "SecondHas.Rules.readAtom");
        DUE.is("only those that carry how deep they are call themselves: " + recursive, recursive.equals(guarded), true);
    }
}
