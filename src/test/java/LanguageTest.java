import com.sun.source.tree.ArrayAccessTree;
import com.sun.source.tree.AssertTree;
import com.sun.source.tree.AssignmentTree;
import com.sun.source.tree.BinaryTree;
import com.sun.source.tree.BlockTree;
import com.sun.source.tree.ClassTree;
import com.sun.source.tree.CompilationUnitTree;
import com.sun.source.tree.CompoundAssignmentTree;
import com.sun.source.tree.DoWhileLoopTree;
import com.sun.source.tree.ExpressionTree;
import com.sun.source.tree.ForLoopTree;
import com.sun.source.tree.ImportTree;
import com.sun.source.tree.LambdaExpressionTree;
import com.sun.source.tree.MemberReferenceTree;
import com.sun.source.tree.MemberSelectTree;
import com.sun.source.tree.MethodInvocationTree;
import com.sun.source.tree.MethodTree;
import com.sun.source.tree.NewArrayTree;
import com.sun.source.tree.NewClassTree;
import com.sun.source.tree.SynchronizedTree;
import com.sun.source.tree.ThrowTree;
import com.sun.source.tree.Tree;
import com.sun.source.tree.TryTree;
import com.sun.source.tree.TypeCastTree;
import com.sun.source.tree.UnaryTree;
import com.sun.source.tree.VariableTree;
import com.sun.source.tree.WhileLoopTree;
import com.sun.source.util.JavacTask;
import com.sun.source.util.SourcePositions;
import com.sun.source.util.TreePath;
import com.sun.source.util.TreePathScanner;
import com.sun.source.util.Trees;
import java.io.File;
import java.util.HashMap;
import java.util.HashSet;
import java.util.List;
import java.util.Map;
import java.util.Set;
import javax.lang.model.element.Element;
import javax.lang.model.element.Modifier;
import javax.lang.model.type.TypeMirror;
import javax.tools.JavaCompiler;
import javax.tools.StandardJavaFileManager;
import javax.tools.ToolProvider;

/** The rules of LANGUAGE.md that can be seen in the source. It is run from the project's folder. */
public final class LanguageTest extends TreePathScanner<Void, Void> {
    private static final Set<String> IMPORTS = Set.of("java.util.Arrays", "java.util.ArrayList", "java.util.List");
    private static final Set<String> LIBRARY = Set.of("Math.max", "Math.min", "Integer.bitCount",
        "System.arraycopy", "Arrays.fill", "String.length", "String.charAt", "String.indexOf");
    private static final Set<String> FACE = Set.of("state", "door", "set", "post", "bring", "rain", "days", "feed",
        "end", "text", "fault", "of", "letter", "given", "book", "goes", "shortest", "blow", "bears", "carries",
        "owes", "net", "chain", "has", "spell", "lays", "answer", "likely", "box", "face", "faces", "joy", "game",
        "undo", "image", "look");
    private static final String NUMBER = "int|long|short|byte|char|boolean|double|float";
    private static final String OWN = "KindPostman(\\.[A-Z]\\w*)?";
    /** Rule 3, as far as the class makes use of it. */
    private static final String TYPES = "(" + NUMBER + "|" + OWN + ")(\\[\\])?|(" + NUMBER + ")\\[\\]\\[\\]"
        + "|java.lang.String";
    private static final String CONSTANTS = "int|long|boolean|char|java.lang.String|(int|long|char|byte)\\[\\]";
    /** The one method that makes something: the desk, once for an object. */
    private static final String MAKES = "theDesk";

    private final Check check = new Check();
    private final Trees trees;
    private final CompilationUnitTree unit;
    private final SourcePositions positions;
    private final Set<String> faceSeen = new HashSet<>();
    private final Map<Element, Set<Element>> calls = new HashMap<>();
    private int classes = 0;

    private LanguageTest(Trees trees, CompilationUnitTree unit) {
        this.trees = trees;
        this.unit = unit;
        positions = trees.getSourcePositions();
    }

    public static void main(String[] args) throws Exception {
        JavaCompiler compiler = ToolProvider.getSystemJavaCompiler();
        try (StandardJavaFileManager files = compiler.getStandardFileManager(null, null, null)) {
            JavacTask task = (JavacTask) compiler.getTask(null, files, null, List.of("-proc:none"), null,
                files.getJavaFileObjects(new File("src/main/java/KindPostman.java")));
            CompilationUnitTree unit = task.parse().iterator().next();
            task.analyze();
            new LanguageTest(Trees.instance(task), unit).look();
        }
    }

    private void look() {
        check.due("a package line", unit.getPackageName() != null, false);
        for (ImportTree i : unit.getImports()) {
            rule(4, IMPORTS.contains(i.getQualifiedIdentifier().toString()), i);
        }
        scan(unit, null);
        check.due("rule 1: the face is whole", faceSeen.equals(FACE), true);
        check.due("rule 11: classes", classes <= 12, true);
        for (Element method : calls.keySet()) {
            int depth = depth(method, new HashSet<>());
            check.due("rule 11: " + method + " goes " + depth + " deep", depth <= 8, true);
            boolean recurs = reaches(method, method, new HashSet<>());
            Set<Modifier> flags = method.getModifiers();
            boolean mayRecur = flags.contains(Modifier.PRIVATE) && flags.contains(Modifier.STATIC);
            check.due("rule 8: " + method, !recurs || mayRecur, true);
        }
        check.end();
    }

    private boolean reaches(Element from, Element to, Set<Element> seen) {
        for (Element called : calls.getOrDefault(from, Set.of())) {
            if (called.equals(to) || seen.add(called) && reaches(called, to, seen)) {
                return true;
            }
        }
        return false;
    }

    private int depth(Element method, Set<Element> open) {
        int deepest = 0;
        open.add(method);
        for (Element called : calls.getOrDefault(method, Set.of())) {
            if (!open.contains(called)) {
                deepest = Math.max(deepest, depth(called, open));
            }
        }
        open.remove(method);
        return deepest + 1;
    }

    private void rule(int number, boolean kept, Tree where) {
        long line = unit.getLineMap().getLineNumber(positions.getStartPosition(unit, where));
        check.due("rule " + number + " kept at line " + line, kept, true);
    }

    private boolean isOutside() {
        return getCurrentPath().getParentPath().getLeaf().getKind() == Tree.Kind.COMPILATION_UNIT;
    }

    private boolean isMemberOfOutside() {
        TreePath parent = getCurrentPath().getParentPath();
        return parent.getParentPath().getLeaf().getKind() == Tree.Kind.COMPILATION_UNIT;
    }

    @Override
    public Void visitClass(ClassTree c, Void none) {
        classes++;
        Set<Modifier> flags = c.getModifiers().getFlags();
        if (isOutside()) {
            rule(1, flags.contains(Modifier.PUBLIC) && flags.contains(Modifier.FINAL), c);
        } else {
            rule(1, !flags.contains(Modifier.PUBLIC) && !flags.contains(Modifier.PROTECTED), c);
            rule(2, flags.contains(Modifier.STATIC) && isMemberOfOutside(), c);
        }
        long fields = c.getMembers().stream().filter(m -> m instanceof VariableTree v
            && !v.getModifiers().getFlags().contains(Modifier.STATIC)).count();
        rule(11, fields <= 20, c);
        return super.visitClass(c, none);
    }

    @Override
    public Void visitVariable(VariableTree v, Void none) {
        boolean isField = getCurrentPath().getParentPath().getLeaf() instanceof ClassTree;
        Set<Modifier> flags = v.getModifiers().getFlags();
        String type = typeOf(getCurrentPath());
        rule(3, type.matches(TYPES), v);
        if (isField && flags.contains(Modifier.STATIC)) {
            rule(5, flags.contains(Modifier.FINAL) && type.matches(CONSTANTS) && v.getInitializer() != null, v);
        }
        if (isField && isMemberOfOutside()) {
            rule(1, flags.contains(Modifier.PRIVATE) || v.getName().contentEquals("NONE"), v);
        }
        return super.visitVariable(v, none);
    }

    @Override
    public Void visitMethod(MethodTree m, Void none) {
        String name = m.getName().toString();
        boolean isConstructor = name.equals("<init>");
        Set<Modifier> flags = m.getModifiers().getFlags();
        if (isMemberOfOutside() && !isConstructor) {
            boolean isFace = flags.contains(Modifier.PUBLIC);
            rule(1, isFace ? FACE.contains(name) && faceSeen.add(name) : flags.contains(Modifier.PRIVATE), m);
            rule(1, isFace || !FACE.contains(name), m);
        } else if (!isConstructor) {
            rule(1, !FACE.contains(name), m);
        }
        rule(11, m.getParameters().size() <= 7, m);
        long from = unit.getLineMap().getLineNumber(positions.getStartPosition(unit, m));
        long to = unit.getLineMap().getLineNumber(Math.max(0, positions.getEndPosition(unit, m)));
        rule(11, to - from < 60, m);
        calls.putIfAbsent(trees.getElement(getCurrentPath()), new HashSet<>());
        return super.visitMethod(m, none);
    }

    @Override
    public Void visitMethodInvocation(MethodInvocationTree call, Void none) {
        Element called = trees.getElement(getCurrentPath());
        TreePath path = getCurrentPath();
        while (path != null && !(path.getLeaf() instanceof MethodTree)) {
            path = path.getParentPath();
        }
        Element home = called.getEnclosingElement();
        boolean isOwn = trees.getTree(called) != null || called.getSimpleName().contentEquals("<init>")
            || called.getSimpleName().contentEquals("clone");
        if (isOwn && path != null) {
            calls.computeIfAbsent(trees.getElement(path), x -> new HashSet<>()).add(called);
        } else {
            rule(4, LIBRARY.contains(home.getSimpleName() + "." + called.getSimpleName()), call);
        }
        return super.visitMethodInvocation(call, none);
    }

    /** Of the library methods are listed, and no constants. */
    @Override
    public Void visitMemberSelect(MemberSelectTree select, Void none) {
        Element named = trees.getElement(getCurrentPath());
        boolean isField = named != null && named.getKind().isField() && !select.getIdentifier().contentEquals("length");
        rule(4, !isField || trees.getTree(named) != null, select);
        return super.visitMemberSelect(select, none);
    }

    private String typeOf(TreePath path) {
        TypeMirror type = trees.getTypeMirror(path);
        return type == null ? "" : type.toString();
    }

    private String typeOf(ExpressionTree part) {
        return typeOf(new TreePath(getCurrentPath(), part));
    }

    @Override
    public Void visitBinary(BinaryTree b, Void none) {
        boolean isText = b.getKind() == Tree.Kind.PLUS && typeOf(getCurrentPath()).startsWith("java.lang.String");
        rule(10, !isText, b);
        boolean compares = b.getKind() == Tree.Kind.EQUAL_TO || b.getKind() == Tree.Kind.NOT_EQUAL_TO;
        boolean areObjects = typeOf(b.getLeftOperand()).startsWith("java.lang")
            && typeOf(b.getRightOperand()).startsWith("java.lang");
        rule(6, !compares || !areObjects, b);
        return super.visitBinary(b, none);
    }

    /** Casts among own classes would need a test before them: there are none. */
    @Override
    public Void visitTypeCast(TypeCastTree c, Void none) {
        rule(6, typeOf(getCurrentPath()).matches(NUMBER), c);
        return super.visitTypeCast(c, none);
    }

    @Override
    public Void visitBlock(BlockTree b, Void none) {
        rule(5, !b.isStatic(), b);
        return super.visitBlock(b, none);
    }

    private void changed(ExpressionTree target) {
        if (target instanceof ArrayAccessTree row) {
            Element named = trees.getElement(new TreePath(getCurrentPath(), row.getExpression()));
            rule(5, named != null && !named.getModifiers().contains(Modifier.STATIC), target);
        }
    }

    @Override
    public Void visitAssignment(AssignmentTree a, Void none) {
        changed(a.getVariable());
        return super.visitAssignment(a, none);
    }

    @Override
    public Void visitCompoundAssignment(CompoundAssignmentTree a, Void none) {
        changed(a.getVariable());
        return super.visitCompoundAssignment(a, none);
    }

    @Override
    public Void visitUnary(UnaryTree u, Void none) {
        if (u.getKind().name().endsWith("CREMENT")) {
            changed(u.getExpression());
        }
        return super.visitUnary(u, none);
    }

    private void made(Tree t) {
        TreePath path = getCurrentPath();
        while (path != null && !(path.getLeaf() instanceof MethodTree)) {
            path = path.getParentPath();
        }
        String name = path == null ? "<init>" : ((MethodTree) path.getLeaf()).getName().toString();
        rule(12, Set.of("<init>", MAKES).contains(name), t);
    }

    @Override
    public Void visitNewClass(NewClassTree n, Void none) {
        made(n);
        rule(2, n.getClassBody() == null, n);
        return super.visitNewClass(n, none);
    }

    @Override
    public Void visitNewArray(NewArrayTree n, Void none) {
        made(n);
        return super.visitNewArray(n, none);
    }

    @Override
    public Void visitForLoop(ForLoopTree f, Void none) {
        rule(9, f.getCondition() != null && f.getUpdate().size() == 1, f);
        return super.visitForLoop(f, none);
    }

    @Override
    public Void visitWhileLoop(WhileLoopTree w, Void none) {
        rule(9, false, w);
        return super.visitWhileLoop(w, none);
    }

    @Override
    public Void visitDoWhileLoop(DoWhileLoopTree d, Void none) {
        rule(9, false, d);
        return super.visitDoWhileLoop(d, none);
    }

    @Override
    public Void visitLambdaExpression(LambdaExpressionTree l, Void none) {
        rule(2, false, l);
        return super.visitLambdaExpression(l, none);
    }

    @Override
    public Void visitMemberReference(MemberReferenceTree r, Void none) {
        rule(2, false, r);
        return super.visitMemberReference(r, none);
    }

    @Override
    public Void visitThrow(ThrowTree t, Void none) {
        rule(6, false, t);
        return super.visitThrow(t, none);
    }

    @Override
    public Void visitTry(TryTree t, Void none) {
        rule(6, false, t);
        return super.visitTry(t, none);
    }

    @Override
    public Void visitSynchronized(SynchronizedTree s, Void none) {
        rule(6, false, s);
        return super.visitSynchronized(s, none);
    }

    @Override
    public Void visitAssert(AssertTree a, Void none) {
        rule(6, false, a);
        return super.visitAssert(a, none);
    }
}
