import com.sun.source.tree.AssertTree;
import com.sun.source.tree.BinaryTree;
import com.sun.source.tree.BlockTree;
import com.sun.source.tree.ClassTree;
import com.sun.source.tree.CompilationUnitTree;
import com.sun.source.tree.DoWhileLoopTree;
import com.sun.source.tree.ExpressionTree;
import com.sun.source.tree.ForLoopTree;
import com.sun.source.tree.ImportTree;
import com.sun.source.tree.LambdaExpressionTree;
import com.sun.source.tree.MemberReferenceTree;
import com.sun.source.tree.MethodInvocationTree;
import com.sun.source.tree.MethodTree;
import com.sun.source.tree.NewArrayTree;
import com.sun.source.tree.NewClassTree;
import com.sun.source.tree.SynchronizedTree;
import com.sun.source.tree.ThrowTree;
import com.sun.source.tree.Tree;
import com.sun.source.tree.TryTree;
import com.sun.source.tree.VariableTree;
import com.sun.source.tree.WhileLoopTree;
import com.sun.source.util.JavacTask;
import com.sun.source.util.TreePath;
import com.sun.source.util.TreePathScanner;
import com.sun.source.util.Trees;
import java.io.IOException;
import java.nio.file.Files;
import java.nio.file.Path;
import java.util.ArrayList;
import java.util.HashMap;
import java.util.HashSet;
import java.util.LinkedHashMap;
import java.util.LinkedHashSet;
import java.util.List;
import java.util.Map;
import java.util.Set;
import javax.lang.model.element.Element;
import javax.lang.model.element.ElementKind;
import javax.lang.model.element.Modifier;
import javax.lang.model.element.VariableElement;
import javax.lang.model.type.TypeMirror;
import javax.tools.JavaCompiler;
import javax.tools.StandardJavaFileManager;
import javax.tools.ToolProvider;

/** The rules of LANGUAGE.md that javac's own tree of the source can tell: what stands in it, and who calls whom. */
public final class LanguageTest {
    private static final int MOST_DEEP = 8, MOST_LINES = 60, MOST_PARAMETERS = 7, MOST_CLASSES = 12, MOST_FIELDS = 20;
    // rule 4, as far as whole names tell it
    private static final Map<String, Set<String>> LIBRARY = Map.of(
        "Object", Set.of("<init>"),
        "String", Set.of("<init>", "length", "charAt", "isEmpty", "equals", "indexOf", "substring", "toCharArray"),
        "StringBuilder", Set.of("<init>", "append", "charAt", "setCharAt", "setLength", "deleteCharAt", "reverse",
            "length", "toString"),
        "ArrayList", Set.of("<init>", "add", "get", "set", "remove", "size", "isEmpty", "clear"),
        "List", Set.of("of", "add", "get", "set", "remove", "size", "isEmpty", "clear"),
        "System", Set.of("arraycopy"),
        "Arrays", Set.of("copyOf", "copyOfRange", "fill"),
        "Integer", Set.of("compare", "max", "min", "bitCount", "numberOfTrailingZeros", "numberOfLeadingZeros"),
        "Long", Set.of("compare", "max", "min", "bitCount", "numberOfTrailingZeros", "numberOfLeadingZeros"),
        "Math", Set.of("max", "min", "abs", "floorDiv", "floorMod"));
    private static final Set<String> IMPORTS =
        Set.of("java.util.Arrays", "java.util.ArrayList", "java.util.List", "java.util.Iterator");
    private static final Set<String> PLAIN = Set.of("void", "int", "long", "short", "byte", "char", "boolean",
        "double", "float", "java.lang.String", "java.lang.StringBuilder", "java.lang.Integer");
    private static final Set<String> CONSTANT = Set.of("int", "long", "boolean", "char", "java.lang.String");

    /** Each method, and those of the same file that stand in it as calls. */
    private final Map<Element, Set<Element>> calls = new LinkedHashMap<>();
    private final Map<Element, Integer> deep = new HashMap<>();
    private final CompilationUnitTree unit;
    private final Trees trees;

    private LanguageTest(CompilationUnitTree unit, Trees trees) {
        this.unit = unit;
        this.trees = trees;
    }

    public static void main(String[] args) throws IOException {
        Path source = Path.of(args.length > 0 ? args[0] : "src/main/java/TwoOnOneBack.java");
        Due.holds("4: signs 1 to 127", Files.readString(source).chars().allMatch(sign -> sign > 0 && sign < 128));
        JavaCompiler compiler = ToolProvider.getSystemJavaCompiler();
        try (StandardJavaFileManager files = compiler.getStandardFileManager(null, null, null)) {
            JavacTask task = (JavacTask) compiler.getTask(null, files, null, List.of("-proc:none"), null,
                files.getJavaFileObjects(source));
            CompilationUnitTree unit = task.parse().iterator().next();
            task.analyze();
            LanguageTest test = new LanguageTest(unit, Trees.instance(task));
            Due.holds("1: no package line", unit.getPackageName() == null);
            Due.is("1: classes beside the public one", unit.getTypeDecls().size(), 1);
            for (ImportTree line : unit.getImports()) {
                Due.holds("4: " + line, IMPORTS.contains(line.getQualifiedIdentifier().toString()));
            }
            test.new Reader().scan(unit, null);
            test.recursions();
            test.depths();
        }
        Due.end("LanguageTest");
    }

    // ---- rules 8 and 11: who calls whom

    private void recursions() {
        for (Element method : calls.keySet()) {
            if (reached(method).contains(method)) {
                Due.holds("8: recursion in what is not private: " + named(method),
                    method.getModifiers().contains(Modifier.PRIVATE));
            }
        }
    }

    private void depths() {
        for (Element method : calls.keySet()) {
            int depth = depth(method);
            Due.holds("11: " + depth + " calls deep: " + named(method), depth <= MOST_DEEP);
        }
    }

    private Set<Element> reached(Element from) {
        Set<Element> all = new LinkedHashSet<>(calls.getOrDefault(from, Set.of()));
        List<Element> open = new ArrayList<>(all);
        while (!open.isEmpty()) {
            for (Element next : calls.getOrDefault(open.remove(open.size() - 1), Set.of())) {
                if (all.add(next)) {
                    open.add(next);
                }
            }
        }
        return all;
    }

    // a ring of methods that call one another is recursion, and counts as one call
    private int depth(Element method) {
        Integer known = deep.get(method);
        if (known != null) {
            return known;
        }
        Set<Element> ring = new HashSet<>(Set.of(method));
        for (Element other : reached(method)) {
            if (reached(other).contains(method)) {
                ring.add(other);
            }
        }
        int most = 0;
        for (Element one : ring) {
            for (Element next : calls.getOrDefault(one, Set.of())) {
                most = ring.contains(next) ? most : Math.max(most, depth(next));
            }
        }
        deep.put(method, most + 1);
        return most + 1;
    }

    private static String named(Element method) {
        return method.getEnclosingElement().getSimpleName() + "." + method;
    }

    /** Goes through the source once, looks at what stands there, and notes the calls. */
    private final class Reader extends TreePathScanner<Void, Void> {
        private Element method;
        private int classes;

        private String place(Tree tree) {
            long start = trees.getSourcePositions().getStartPosition(unit, tree);
            return " (line " + unit.getLineMap().getLineNumber(start) + ")";
        }

        private Void never(String rule, Tree tree) {
            Due.holds(rule + place(tree), false);
            return null;
        }

        private TypeMirror type(Tree tree) {
            return trees.getTypeMirror(new TreePath(getCurrentPath(), tree));
        }

        private boolean isOwn(Element element) {
            TreePath path = trees.getPath(element);
            return path != null && path.getCompilationUnit() == unit;
        }

        @Override
        public Void visitClass(ClassTree tree, Void none) {
            Element element = trees.getElement(getCurrentPath());
            classes++;
            Due.holds("11: classes" + place(tree), classes <= MOST_CLASSES);
            Element outer = element.getEnclosingElement();
            boolean inside = outer.getKind() != ElementKind.PACKAGE;
            Due.holds("2: a class in a method" + place(tree), !inside || outer.getKind().isClass());
            Due.holds("2: a class inside that is not static" + place(tree),
                !inside || element.getModifiers().contains(Modifier.STATIC) || tree.getKind() != Tree.Kind.CLASS);
            long fields = element.getEnclosedElements().stream()
                .filter(e -> e.getKind() == ElementKind.FIELD && !e.getModifiers().contains(Modifier.STATIC)).count();
            Due.holds("11: fields" + place(tree), fields <= MOST_FIELDS);
            for (Tree member : tree.getMembers()) {
                if (member instanceof BlockTree) {
                    never("5: an initialiser block", member);
                }
            }
            return super.visitClass(tree, none);
        }

        @Override
        public Void visitMethod(MethodTree tree, Void none) {
            method = trees.getElement(getCurrentPath());
            calls.putIfAbsent(method, new LinkedHashSet<>());
            Due.holds("11: parameters" + place(tree), tree.getParameters().size() <= MOST_PARAMETERS);
            long start = trees.getSourcePositions().getStartPosition(unit, tree);
            long end = trees.getSourcePositions().getEndPosition(unit, tree);
            if (end > start) {
                long lines = unit.getLineMap().getLineNumber(end) - unit.getLineMap().getLineNumber(start) + 1;
                Due.holds("11: " + lines + " lines" + place(tree), lines <= MOST_LINES);
            }
            if (tree.getReturnType() != null) {
                isOfTheLanguage(tree, type(tree.getReturnType()));
            }
            super.visitMethod(tree, none);
            method = null;
            return null;
        }

        @Override
        public Void visitVariable(VariableTree tree, Void none) {
            Element element = trees.getElement(getCurrentPath());
            isOfTheLanguage(tree, element.asType());
            if (element.getModifiers().contains(Modifier.STATIC)) {
                boolean constant = CONSTANT.contains(element.asType().toString())
                    && ((VariableElement) element).getConstantValue() != null;
                Due.holds("5: a static field that is no constant" + place(tree),
                    element.getModifiers().contains(Modifier.FINAL)
                        && (constant || tree.getInitializer() instanceof NewArrayTree));
            }
            return super.visitVariable(tree, none);
        }

        private void isOfTheLanguage(Tree tree, TypeMirror type) {
            String name = type.toString().replaceFirst("^java\\.util\\.(Array)?List<(.*)>$", "$2");
            boolean rows = name.endsWith("[][]") && PLAIN.contains(name.substring(0, name.length() - 4))
                && !name.startsWith("java.lang");
            String one = name.endsWith("[]") ? name.substring(0, name.length() - 2) : name;
            Due.holds("3: " + name + place(tree), rows || PLAIN.contains(one) || one.startsWith("TwoOnOneBack"));
        }

        @Override
        public Void visitMethodInvocation(MethodInvocationTree tree, Void none) {
            called(tree, trees.getElement(getCurrentPath()));
            return super.visitMethodInvocation(tree, none);
        }

        @Override
        public Void visitNewClass(NewClassTree tree, Void none) {
            Due.holds("2: an anonymous class" + place(tree), tree.getClassBody() == null);
            called(tree, trees.getElement(getCurrentPath()));
            return super.visitNewClass(tree, none);
        }

        private void called(Tree tree, Element target) {
            Element owner = target.getEnclosingElement();
            if (!isOwn(owner)) {
                String name = target.getSimpleName().toString();
                Due.holds("4: " + owner + "." + name + place(tree),
                    LIBRARY.getOrDefault(owner.getSimpleName().toString(), Set.of()).contains(name));
            } else if (method != null) {
                calls.get(method).add(target);
            }
        }

        @Override
        public Void visitBinary(BinaryTree tree, Void none) {
            String left = type(tree.getLeftOperand()).toString();
            String right = type(tree.getRightOperand()).toString();
            boolean alike = tree.getKind() == Tree.Kind.EQUAL_TO || tree.getKind() == Tree.Kind.NOT_EQUAL_TO;
            boolean boxed = left.equals(right) && left.startsWith("java.lang.");
            Due.holds("6: == of Strings or Integers" + place(tree), !(alike && boxed));
            boolean joined = tree.getKind() == Tree.Kind.PLUS && (left + right).contains("java.lang.String");
            Due.holds("10: texts joined by +" + place(tree), !joined);
            return super.visitBinary(tree, none);
        }

        @Override
        public Void visitForLoop(ForLoopTree tree, Void none) {
            Due.holds("9: a loop without an end" + place(tree), tree.getCondition() != null);
            return super.visitForLoop(tree, none);
        }

        @Override
        public Void visitWhileLoop(WhileLoopTree tree, Void none) {
            ends(tree, tree.getCondition());
            return super.visitWhileLoop(tree, none);
        }

        @Override
        public Void visitDoWhileLoop(DoWhileLoopTree tree, Void none) {
            ends(tree, tree.getCondition());
            return super.visitDoWhileLoop(tree, none);
        }

        private void ends(Tree tree, ExpressionTree condition) {
            Due.holds("9: a loop without an end" + place(tree), !condition.toString().equals("(true)"));
        }

        @Override
        public Void visitLambdaExpression(LambdaExpressionTree tree, Void none) {
            return never("2: a lambda", tree);
        }

        @Override
        public Void visitMemberReference(MemberReferenceTree tree, Void none) {
            return never("2: a method reference", tree);
        }

        @Override
        public Void visitThrow(ThrowTree tree, Void none) {
            return never("6: throw", tree);
        }

        @Override
        public Void visitTry(TryTree tree, Void none) {
            return never("6: try", tree);
        }

        @Override
        public Void visitSynchronized(SynchronizedTree tree, Void none) {
            return never("6: synchronized", tree);
        }

        @Override
        public Void visitAssert(AssertTree tree, Void none) {
            return never("6: assert", tree);
        }
    }
}
