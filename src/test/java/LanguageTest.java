import com.sun.source.tree.AssertTree;
import com.sun.source.tree.BinaryTree;
import com.sun.source.tree.ClassTree;
import com.sun.source.tree.CompilationUnitTree;
import com.sun.source.tree.LambdaExpressionTree;
import com.sun.source.tree.MemberReferenceTree;
import com.sun.source.tree.MethodInvocationTree;
import com.sun.source.tree.MethodTree;
import com.sun.source.tree.NewArrayTree;
import com.sun.source.tree.NewClassTree;
import com.sun.source.tree.SynchronizedTree;
import com.sun.source.tree.ThrowTree;
import com.sun.source.tree.Tree;
import com.sun.source.tree.TryTree;
import com.sun.source.tree.VariableTree;
import com.sun.source.util.JavacTask;
import com.sun.source.util.TreePathScanner;
import com.sun.source.util.Trees;
import java.io.IOException;
import java.nio.file.Path;
import java.util.ArrayDeque;
import java.util.Deque;
import java.util.LinkedHashMap;
import java.util.LinkedHashSet;
import java.util.List;
import java.util.Map;
import java.util.Set;
import java.util.TreeSet;
import javax.lang.model.element.Element;
import javax.lang.model.element.ElementKind;
import javax.lang.model.element.Modifier;
import javax.tools.JavaCompiler;
import javax.tools.StandardJavaFileManager;
import javax.tools.ToolProvider;

/** LANGUAGE.md: how deep calls go (rule 11), and what of rules 1, 2, 4, 5, 6, 8 and 10 shows in the text. */
public final class LanguageTest {
    private static final Check CHECK = new Check("LanguageTest");
    private static final Path FILE = Path.of("src/main/java/BookTrees.java");
    private static final int MOST_DEEP = 8;
    private static final int MOST_PARAMETERS = 7;
    private static final int MOST_LINES = 60;
    private static final int MOST_CLASSES = 12;
    private static final int MOST_FIELDS = 20;
    private static final Set<String> LIBRARY = Set.of("Math.min", "Math.max", "Math.floorMod", "System.arraycopy", "Object.<init>",
            "IllegalArgumentException.<init>", "IllegalStateException.<init>");
    private static final Set<String> CONSTANTS = Set.of("int", "long", "boolean", "char", "java.lang.String");

    /** The methods of the program, each with those that it calls, the library's too. */
    private static final Map<Element, Set<Element>> CALLS = new LinkedHashMap<>();

    public static void main(String[] args) throws IOException {
        JavaCompiler compiler = ToolProvider.getSystemJavaCompiler();
        try (StandardJavaFileManager files = compiler.getStandardFileManager(null, null, null)) {
            JavacTask task = (JavacTask) compiler.getTask(null, files, null, List.of("-proc:none"), null, files.getJavaFileObjects(FILE));
            CompilationUnitTree unit = task.parse().iterator().next();
            task.analyze();
            new Rules(Trees.instance(task), unit).scan(unit, null);
        }
        CHECK.due("rule 11: the depth is looked at for all methods", CALLS.size() > 17, true);
        for (Element method : CALLS.keySet()) {
            String deepest = deepest(method, new ArrayDeque<>());
            int depth = deepest.split(" ").length;
            CHECK.due("rule 11: at most eight calls deep, but " + deepest + " is " + depth, depth <= MOST_DEEP, true);
        }
        CHECK.end();
    }

    /** The longest chain of calls from a method on, itself and the library's methods among them. */
    private static String deepest(Element method, Deque<Element> open) {
        String name = name(method);
        if (open.contains(method)) {
            CHECK.due("rule 8: " + name + " calls itself", true, false);
            return name;
        }
        open.push(method);
        String longest = "";
        for (Element called : CALLS.getOrDefault(method, Set.of())) {
            String chain = deepest(called, open);
            if (longest.isEmpty() || chain.split(" ").length > longest.split(" ").length) {
                longest = chain;
            }
        }
        open.pop();
        return longest.isEmpty() ? name : name + " " + longest;
    }

    private static String name(Element method) {
        return method.getEnclosingElement().getSimpleName() + "." + method.getSimpleName();
    }

    /** Goes through the text and looks at each rule where it meets what the rule is about. */
    private static final class Rules extends TreePathScanner<Void, Void> {
        private final Trees trees;
        private final CompilationUnitTree unit;
        private final Set<String> publicNames = new TreeSet<>();
        private Element method;
        private boolean inThrow;
        private int classes;

        Rules(Trees trees, CompilationUnitTree unit) {
            this.trees = trees;
            this.unit = unit;
        }

        @Override
        public Void visitCompilationUnit(CompilationUnitTree tree, Void none) {
            CHECK.due("there is no package line", tree.getPackageName() == null, true);
            CHECK.due("how many outer classes", tree.getTypeDecls().size(), 1);
            super.visitCompilationUnit(tree, none);
            CHECK.due("rule 11: at most some twelve classes", classes <= MOST_CLASSES, true);
            return null;
        }

        @Override
        public Void visitClass(ClassTree tree, Void none) {
            classes++;
            int fields = 0;
            for (Tree member : tree.getMembers()) {
                if (member instanceof VariableTree field && !field.getModifiers().getFlags().contains(Modifier.STATIC)) {
                    fields++;
                }
                CHECK.due("rule 5: an initialiser block", member.getKind() == Tree.Kind.BLOCK, false);
            }
            CHECK.due("rule 11: at most some twenty fields in " + tree.getSimpleName(), fields <= MOST_FIELDS, true);
            return super.visitClass(tree, none);
        }

        @Override
        public Void visitVariable(VariableTree tree, Void none) {
            Set<Modifier> flags = tree.getModifiers().getFlags();
            if (flags.contains(Modifier.STATIC)) {
                CHECK.due("rule 5: " + tree.getName() + " is final", flags.contains(Modifier.FINAL), true);
                CHECK.due("rule 5: the type of " + tree.getName(), CONSTANTS.contains(type()), true);
            }
            return super.visitVariable(tree, none);
        }

        @Override
        public Void visitMethod(MethodTree tree, Void none) {
            method = trees.getElement(getCurrentPath());
            CALLS.put(method, new LinkedHashSet<>());
            CHECK.due("rule 11: the parameters of " + name(method), tree.getParameters().size() <= MOST_PARAMETERS, true);
            CHECK.due("rule 11: the lines of " + name(method), lines(tree) <= MOST_LINES, true);
            noteName(tree);
            super.visitMethod(tree, none);
            method = null;
            return null;
        }

        /** The public methods stand first, so their names are known when a private one comes. */
        private void noteName(MethodTree tree) {
            String simple = tree.getName().toString();
            if (tree.getModifiers().getFlags().contains(Modifier.PUBLIC)) {
                publicNames.add(simple);
            } else if (!simple.equals("<init>")) {
                CHECK.due("rule 1: " + name(method) + " bears a public name", publicNames.contains(simple), false);
            }
        }

        @Override
        public Void visitMethodInvocation(MethodInvocationTree tree, Void none) {
            note(trees.getElement(getCurrentPath()));
            return super.visitMethodInvocation(tree, none);
        }

        @Override
        public Void visitNewClass(NewClassTree tree, Void none) {
            note(trees.getElement(getCurrentPath()));
            CHECK.due("an object is made in a constructor or thrown, but " + tree, inThrow || isInConstructor(), true);
            return super.visitNewClass(tree, none);
        }

        @Override
        public Void visitNewArray(NewArrayTree tree, Void none) {
            CHECK.due("an array is made in a constructor, but " + tree, isInConstructor(), true);
            return super.visitNewArray(tree, none);
        }

        @Override
        public Void visitThrow(ThrowTree tree, Void none) {
            CHECK.due("rule 6: a throw in a constructor", isInConstructor(), false);
            boolean isNew = tree.getExpression() instanceof NewClassTree;
            CHECK.due("rule 6: throw new, but " + tree, isNew, true);
            inThrow = true;
            super.visitThrow(tree, none);
            inThrow = false;
            return null;
        }

        @Override
        public Void visitBinary(BinaryTree tree, Void none) {
            boolean isText = tree.getKind() == Tree.Kind.PLUS && type().equals("java.lang.String");
            CHECK.due("rule 10: texts joined by + in " + tree, isText, false);
            return super.visitBinary(tree, none);
        }

        @Override
        public Void visitTry(TryTree tree, Void none) {
            return refuse("a try", tree);
        }

        @Override
        public Void visitLambdaExpression(LambdaExpressionTree tree, Void none) {
            return refuse("rule 2: a lambda", tree);
        }

        @Override
        public Void visitMemberReference(MemberReferenceTree tree, Void none) {
            return refuse("rule 2: a method reference", tree);
        }

        @Override
        public Void visitSynchronized(SynchronizedTree tree, Void none) {
            return refuse("rule 6: synchronized", tree);
        }

        @Override
        public Void visitAssert(AssertTree tree, Void none) {
            return refuse("rule 6: assert", tree);
        }

        private Void refuse(String what, Tree tree) {
            CHECK.due(what + ": " + tree, true, false);
            return null;
        }

        private void note(Element called) {
            boolean isOwn = trees.getTree(called.getEnclosingElement()) != null;
            if (!isOwn) {
                CHECK.due("rule 4: " + name(called) + " is in the list", LIBRARY.contains(name(called)), true);
            }
            if (method != null) {
                CALLS.get(method).add(called);
            }
        }

        /** A field's initialiser runs with the constructor. */
        private boolean isInConstructor() {
            return method == null || method.getKind() == ElementKind.CONSTRUCTOR;
        }

        /** The type of what is being looked at. */
        private String type() {
            return trees.getTypeMirror(getCurrentPath()).toString();
        }

        private long lines(MethodTree tree) {
            long from = trees.getSourcePositions().getStartPosition(unit, tree);
            long upTo = trees.getSourcePositions().getEndPosition(unit, tree);
            return unit.getLineMap().getLineNumber(upTo) - unit.getLineMap().getLineNumber(from) + 1;
        }
    }
}
