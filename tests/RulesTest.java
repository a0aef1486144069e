import com.sun.source.tree.BinaryTree;
import com.sun.source.tree.ClassTree;
import com.sun.source.tree.CompilationUnitTree;
import com.sun.source.tree.ExpressionTree;
import com.sun.source.tree.ForLoopTree;
import com.sun.source.tree.MethodInvocationTree;
import com.sun.source.tree.MethodTree;
import com.sun.source.tree.NewArrayTree;
import com.sun.source.tree.NewClassTree;
import com.sun.source.tree.Tree;
import com.sun.source.tree.Tree.Kind;
import com.sun.source.tree.VariableTree;
import com.sun.source.util.JavacTask;
import com.sun.source.util.TreePath;
import com.sun.source.util.TreePathScanner;
import com.sun.source.util.Trees;
import java.io.File;
import java.util.ArrayList;
import java.util.EnumSet;
import java.util.HashMap;
import java.util.LinkedHashMap;
import java.util.LinkedHashSet;
import java.util.List;
import java.util.Map;
import java.util.Set;
import javax.lang.model.element.Element;
import javax.lang.model.element.ExecutableElement;
import javax.lang.model.element.Modifier;
import javax.lang.model.type.TypeMirror;
import javax.tools.JavaCompiler;
import javax.tools.StandardJavaFileManager;
import javax.tools.ToolProvider;

/** What of LANGUAGE.md the compiler sees in the file: its kinds of statement, types, library, how deep calls go. */
public final class RulesTest extends TreePathScanner<Void, Void> {
    private static final File SOURCE = new File("src/main/java/HatDownTheStreet.java");
    private static final int MOST_DEPTH = 8;

    /** Rules 2, 6 and 10. */
    private static final Set<Kind> NEVER = EnumSet.of(Kind.THROW, Kind.TRY, Kind.CATCH, Kind.SYNCHRONIZED, Kind.ASSERT,
        Kind.LAMBDA_EXPRESSION, Kind.MEMBER_REFERENCE, Kind.BINDING_PATTERN, Kind.IMPORT, Kind.PACKAGE);
    private static final Set<Kind> LOOPS = EnumSet.of(Kind.WHILE_LOOP, Kind.DO_WHILE_LOOP, Kind.FOR_LOOP);

    /** Rule 4, as far as the class uses the library. */
    private static final Set<String> LIBRARY = Set.of("java.lang.Object.<init>", "java.lang.String.length",
        "java.lang.String.charAt", "java.lang.Math.min", "java.lang.Math.max", "java.lang.Math.floorMod",
        "java.lang.System.arraycopy");

    /** Rule 8: what may call itself, by way of others or not, as its depth has a limit. */
    private static final Set<String> RECURSIVE = Set.of("Errand.fetch", "Reader.readOr", "Reader.readAnd",
        "Reader.readNot", "Reader.readSum", "Reader.readTerm", "Reader.readOne");

    private final Trees trees;
    private final CompilationUnitTree unit;
    private final Map<String, Set<String>> calls = new LinkedHashMap<>();

    private RulesTest(Trees trees, CompilationUnitTree unit) {
        this.trees = trees;
        this.unit = unit;
    }

    public static void main(String[] args) throws Exception {
        JavaCompiler compiler = ToolProvider.getSystemJavaCompiler();
        StandardJavaFileManager files = compiler.getStandardFileManager(null, null, null);
        JavacTask task = (JavacTask) compiler.getTask(null, files, null, List.of("-proc:none"), null,
            files.getJavaFileObjects(SOURCE));
        CompilationUnitTree unit = task.parse().iterator().next();
        task.analyze();
        RulesTest seen = new RulesTest(Trees.instance(task), unit);
        seen.scan(unit, null);
        seen.depth();
        Due.end();
    }

    private void rule(int number, Tree where, String what, boolean holds) {
        long line = unit.getLineMap().getLineNumber(trees.getSourcePositions().getStartPosition(unit, where));
        Due.of("LANGUAGE.md, rule " + number, what);
        Due.holds("line " + line, holds);
    }

    @Override
    public Void scan(Tree tree, Void nothing) {
        if (tree != null) {
            boolean isFor = tree.getKind() == Kind.FOR_LOOP;
            rule(6, tree, "no such kind of statement: " + tree.getKind(), !NEVER.contains(tree.getKind()));
            boolean isEndless = isFor && ((ForLoopTree) tree).getCondition() == null;
            rule(9, tree, "a loop has an end", !LOOPS.contains(tree.getKind()) || !isEndless && !endsNever(tree));
        }
        return super.scan(tree, nothing);
    }

    private static boolean endsNever(Tree tree) {
        return tree.toString().startsWith("while (true)") || tree.toString().endsWith("while (true);");
    }

    @Override
    public Void visitClass(ClassTree tree, Void nothing) {
        Tree outside = getCurrentPath().getParentPath().getLeaf();
        boolean isOuter = outside.getKind() == Kind.COMPILATION_UNIT;
        boolean isNested = outside.getKind() == Kind.CLASS && tree.getModifiers().getFlags().contains(Modifier.STATIC);
        rule(2, tree, "classes inside are static, of the class itself", isOuter || isNested);
        return super.visitClass(tree, nothing);
    }

    @Override
    public Void visitMethod(MethodTree tree, Void nothing) {
        rule(11, tree, "seven parameters at most", tree.getParameters().size() <= 7);
        long first = unit.getLineMap().getLineNumber(trees.getSourcePositions().getStartPosition(unit, tree));
        long last = unit.getLineMap().getLineNumber(trees.getSourcePositions().getEndPosition(unit, tree));
        rule(11, tree, "some sixty lines at most", last - first < 60);
        calls.computeIfAbsent(method(getCurrentPath()), k -> new LinkedHashSet<>());
        return super.visitMethod(tree, nothing);
    }

    @Override
    public Void visitVariable(VariableTree tree, Void nothing) {
        String type = trees.getTypeMirror(getCurrentPath()).toString();
        String bare = type.replace("[]", "");
        int dimensions = (type.length() - bare.length()) / 2;
        boolean isNumber = Set.of("int", "long", "short", "byte", "char", "boolean").contains(bare);
        boolean isOwn = bare.startsWith("HatDownTheStreet.") || bare.equals("java.lang.String");
        rule(3, tree, "no such type: " + type, isNumber && dimensions <= 2 || isOwn && dimensions <= 1);
        Set<Modifier> flags = tree.getModifiers().getFlags();
        rule(5, tree, "static fields are final", !flags.contains(Modifier.STATIC) || flags.contains(Modifier.FINAL));
        return super.visitVariable(tree, nothing);
    }

    /** Rule 12 and the room: objects come in constructors and with the fields alone. */
    @Override
    public Void visitNewClass(NewClassTree tree, Void nothing) {
        rule(2, tree, "no class without a name", tree.getClassBody() == null);
        rule(12, tree, "an object is made only where the whole is made", isWhereAllIsMade());
        called(trees.getElement(getCurrentPath()));
        return super.visitNewClass(tree, nothing);
    }

    @Override
    public Void visitNewArray(NewArrayTree tree, Void nothing) {
        rule(12, tree, "an array is made only where the whole is made", isWhereAllIsMade());
        return super.visitNewArray(tree, nothing);
    }

    @Override
    public Void visitMethodInvocation(MethodInvocationTree tree, Void nothing) {
        called(trees.getElement(getCurrentPath()));
        return super.visitMethodInvocation(tree, nothing);
    }

    @Override
    public Void visitBinary(BinaryTree tree, Void nothing) {
        boolean isEqual = tree.getKind() == Kind.EQUAL_TO || tree.getKind() == Kind.NOT_EQUAL_TO;
        boolean isOfTexts = isText(tree.getLeftOperand()) || isText(tree.getRightOperand());
        rule(tree.getKind() == Kind.PLUS ? 10 : 6, tree, "texts are not joined by +, nor compared by ==",
            !isOfTexts || tree.getKind() != Kind.PLUS && !isEqual);
        return super.visitBinary(tree, nothing);
    }

    private boolean isText(ExpressionTree tree) {
        TypeMirror type = trees.getTypeMirror(new TreePath(getCurrentPath(), tree));
        return type != null && type.toString().equals("java.lang.String");
    }

    private boolean isWhereAllIsMade() {
        for (TreePath p = getCurrentPath(); p != null; p = p.getParentPath()) {
            if (p.getLeaf() instanceof MethodTree) {
                return ((MethodTree) p.getLeaf()).getName().contentEquals("<init>");
            }
        }
        return true;
    }

    private String method(TreePath path) {
        return name(trees.getElement(path));
    }

    private static String name(Element e) {
        return e.getEnclosingElement().toString().replace("HatDownTheStreet.", "") + "." + e.getSimpleName();
    }

    private void called(Element called) {
        boolean isOwn = called.getEnclosingElement().toString().startsWith("HatDownTheStreet");
        rule(4, getCurrentPath().getLeaf(), "the library has it: " + name(called), isOwn || LIBRARY.contains(name(called)));
        TreePath p = getCurrentPath();
        while (p != null && !(p.getLeaf() instanceof MethodTree)) {
            p = p.getParentPath();
        }
        if (p != null && called instanceof ExecutableElement) {
            calls.computeIfAbsent(method(p), k -> new LinkedHashSet<>()).add(name(called));
        }
    }

    /** Rules 8 and 11. No two methods of a class bear the same name, so a name is enough. */
    private void depth() {
        Due.of("LANGUAGE.md, rules 8 and 11", "calls that are no recursion go at most eight deep");
        Map<String, Integer> depths = new HashMap<>();
        for (String call : calls.keySet()) {
            List<String> open = new ArrayList<>();
            Due.holds(call + " is no recursion", RECURSIVE.contains(call) || !reaches(call, call, open));
            int depth = depth(call, depths);
            Due.holds(call + " goes " + depth + " deep", depth <= MOST_DEPTH);
        }
        Due.holds("calls are seen", depths.size() > 100);
    }

    private boolean reaches(String from, String wanted, List<String> seen) {
        for (String next : calls.getOrDefault(from, Set.of())) {
            if (next.equals(wanted)) {
                return true;
            }
            if (!seen.contains(next)) {
                seen.add(next);
                if (reaches(next, wanted, seen)) {
                    return true;
                }
            }
        }
        return false;
    }

    /** What is recursive counts as one, with the deepest that any of it calls besides. */
    private int depth(String call, Map<String, Integer> depths) {
        if (depths.containsKey(call)) {
            return depths.get(call);
        }
        depths.put(call, 1);
        int deepest = 0;
        for (String next : calls.getOrDefault(call, Set.of())) {
            boolean isOneOfIt = RECURSIVE.contains(call) && RECURSIVE.contains(next);
            deepest = Math.max(deepest, depth(next, depths) - (isOneOfIt ? 1 : 0));
        }
        depths.put(call, deepest + 1);
        return deepest + 1;
    }
}
