import com.sun.source.tree.AnnotationTree;
import com.sun.source.tree.AssertTree;
import com.sun.source.tree.BinaryTree;
import com.sun.source.tree.BlockTree;
import com.sun.source.tree.ClassTree;
import com.sun.source.tree.CompilationUnitTree;
import com.sun.source.tree.CompoundAssignmentTree;
import com.sun.source.tree.ExpressionTree;
import com.sun.source.tree.LambdaExpressionTree;
import com.sun.source.tree.MemberReferenceTree;
import com.sun.source.tree.MethodInvocationTree;
import com.sun.source.tree.MethodTree;
import com.sun.source.tree.NewArrayTree;
import com.sun.source.tree.NewClassTree;
import com.sun.source.tree.SynchronizedTree;
import com.sun.source.tree.ThrowTree;
import com.sun.source.tree.Tree;
import com.sun.source.tree.TryTree;
import com.sun.source.tree.VariableTree;
import com.sun.source.util.JavacTask;
import com.sun.source.util.TreePath;
import com.sun.source.util.TreePathScanner;
import com.sun.source.util.Trees;
import java.nio.file.Path;
import java.util.ArrayList;
import java.util.LinkedHashMap;
import java.util.LinkedHashSet;
import java.util.List;
import java.util.Map;
import java.util.Set;
import java.util.TreeSet;
import javax.lang.model.element.Element;
import javax.lang.model.element.ExecutableElement;
import javax.lang.model.element.Modifier;
import javax.lang.model.element.TypeElement;
import javax.lang.model.element.VariableElement;
import javax.lang.model.type.TypeMirror;
import javax.tools.JavaCompiler;
import javax.tools.StandardJavaFileManager;
import javax.tools.ToolProvider;

/** The rules of LANGUAGE.md that can be told from the file as the compiler understands it. */
public final class LanguageTest extends TreePathScanner<Void, Void> {
    private static final String[] LIBRARY = {
        "String length charAt isEmpty equals indexOf substring toCharArray <init>",
        "StringBuilder <init> append charAt setCharAt setLength deleteCharAt reverse length toString",
        "ArrayList <init> add get set remove size isEmpty clear",
        "List of add get set remove size isEmpty clear",
        "Integer compare max min abs bitCount", "Long compare max min abs bitCount",
        "Math max min abs floorDiv floorMod", "System arraycopy", "Arrays copyOf copyOfRange fill", "Object <init>"};
    private static final Set<String> TYPES = Set.of("int", "long", "short", "byte", "char", "boolean", "double", "float",
        "String", "StringBuilder", "Integer", "ArrayList", "List");

    private final Due due = new Due();
    private final Trees trees;
    private final JavacTask task;
    private final CompilationUnitTree unit;
    private final Set<String> own = new TreeSet<>();
    private final Set<String> allowed = new TreeSet<>();
    private final Map<ExecutableElement, Set<ExecutableElement>> calls = new LinkedHashMap<>();

    public static void main(String[] args) throws Exception {
        Path file = Path.of(args.length == 0 ? "src/main/java/DarkShares.java" : args[0]);
        JavaCompiler compiler = ToolProvider.getSystemJavaCompiler();
        try (StandardJavaFileManager files = compiler.getStandardFileManager(null, null, null)) {
            JavacTask task = (JavacTask) compiler.getTask(null, files, null, List.of("-proc:none"), null, files.getJavaFileObjects(file));
            CompilationUnitTree unit = task.parse().iterator().next();
            task.analyze();
            new LanguageTest(task, unit).look();
        }
    }

    private LanguageTest(JavacTask task, CompilationUnitTree unit) {
        this.task = task;
        this.unit = unit;
        trees = Trees.instance(task);
        for (String row : LIBRARY) {
            String[] words = row.split(" ");
            for (int n = 1; n < words.length; n++) allowed.add(words[0] + "." + words[n]);
        }
    }

    private void look() {
        rule(1, "without a package line", unit.getPackageName() == null);
        rule(1, "one class, with the others inside it", unit.getTypeDecls().size() == 1);
        ClassTree face = (ClassTree) unit.getTypeDecls().get(0);
        own.add(face.getSimpleName().toString());
        int classes = 1;
        for (Tree t : face.getMembers()) {
            if (!(t instanceof ClassTree c)) continue;
            own.add(c.getSimpleName().toString());
            classes++;
        }
        rule(11, classes + " classes, twelve at most", classes <= 12);
        scan(unit, null);
        callsGoEightDeep();
        due.end();
    }

    private void rule(int number, String what, boolean kept) {
        due.is("rule " + number + ": " + what + (kept ? "" : at()), kept ? 1 : 0, 1);
    }

    private String at() {
        return getCurrentPath() == null ? "" : ", line " + line(getCurrentPath().getLeaf(), false);
    }

    private long line(Tree t, boolean end) {
        long place = end ? trees.getSourcePositions().getEndPosition(unit, t) : trees.getSourcePositions().getStartPosition(unit, t);
        return unit.getLineMap().getLineNumber(Math.max(0, place));
    }

    // ---- what is declared

    @Override
    public Void visitClass(ClassTree c, Void none) {
        String name = c.getSimpleName().toString();
        Tree around = getCurrentPath().getParentPath().getLeaf();
        rule(2, "'" + name + "' has a name and stands in the face alone", !name.isEmpty()
            && (around == unit || around == unit.getTypeDecls().get(0)));
        if (around != unit) {
            Set<Modifier> how = c.getModifiers().getFlags();
            rule(1, name + " is static", how.contains(Modifier.STATIC) || c.getKind() != Tree.Kind.CLASS);
            rule(1, name + " is private or package-visible", !how.contains(Modifier.PUBLIC) && !how.contains(Modifier.PROTECTED));
        }
        int fields = 0;
        for (Tree t : c.getMembers()) {
            if (t instanceof VariableTree v && !v.getModifiers().getFlags().contains(Modifier.STATIC)) fields++;
            if (t instanceof BlockTree b) rule(5, name + " has no initialiser block", false);
        }
        rule(11, name + " has " + fields + " fields, twenty at most", fields <= 20);
        return super.visitClass(c, none);
    }

    @Override
    public Void visitMethod(MethodTree m, Void none) {
        String name = m.getName().toString();
        rule(6, name + " is none of equals, hashCode, toString", !Set.of("equals", "hashCode", "toString").contains(name));
        rule(11, name + " takes seven at most", m.getParameters().size() <= 7);
        long lines = line(m, true) - line(m, false) + 1;
        rule(11, name + " has " + lines + " lines, sixty at most", lines <= 60);
        calls.putIfAbsent((ExecutableElement) trees.getElement(getCurrentPath()), new LinkedHashSet<>());
        return super.visitMethod(m, none);
    }

    @Override
    public Void visitVariable(VariableTree v, Void none) {
        Element e = trees.getElement(getCurrentPath());
        String type = e.asType().toString().replaceAll("<.*>", "").replaceAll(".*\\.", "");
        String bare = type.replace("[]", "");
        rule(3, "the type of " + v.getName(), TYPES.contains(bare) || own.contains(bare));
        rule(3, "one dimension, two of numbers: " + v.getName(), type.length() - bare.length() <= (own.contains(bare) ? 2 : 4));
        if (e.getModifiers().contains(Modifier.STATIC)) rule(5, v.getName() + " is final", e.getModifiers().contains(Modifier.FINAL));
        return super.visitVariable(v, none);
    }

    @Override
    public Void visitAnnotation(AnnotationTree a, Void none) {
        rule(4, "no annotation", false);
        return null;
    }

    // ---- what is left out

    @Override
    public Void visitLambdaExpression(LambdaExpressionTree t, Void none) {
        rule(2, "no lambda", false);
        return null;
    }

    @Override
    public Void visitMemberReference(MemberReferenceTree t, Void none) {
        rule(2, "no method reference", false);
        return null;
    }

    @Override
    public Void visitThrow(ThrowTree t, Void none) {
        rule(6, "no throw", false);
        return null;
    }

    @Override
    public Void visitTry(TryTree t, Void none) {
        rule(6, "no try", false);
        return null;
    }

    @Override
    public Void visitSynchronized(SynchronizedTree t, Void none) {
        rule(6, "no synchronized", false);
        return null;
    }

    @Override
    public Void visitAssert(AssertTree t, Void none) {
        rule(6, "no assert", false);
        return null;
    }

    @Override
    public Void visitBinary(BinaryTree t, Void none) {
        if (t.getKind() == Tree.Kind.PLUS) rule(10, "no text is joined by +", !isText(t));
        if (t.getKind() == Tree.Kind.EQUAL_TO || t.getKind() == Tree.Kind.NOT_EQUAL_TO) {
            rule(6, "no == of texts", !isText(t.getLeftOperand()) || !isText(t.getRightOperand()));
        }
        if (t.getKind() == Tree.Kind.DIVIDE || t.getKind() == Tree.Kind.REMAINDER) divisorIsLookedAt(t.getRightOperand());
        return super.visitBinary(t, none);
    }

    @Override
    public Void visitCompoundAssignment(CompoundAssignmentTree t, Void none) {
        rule(10, "no text is joined by +=", !isText(t));
        if (t.getKind() == Tree.Kind.DIVIDE_ASSIGNMENT || t.getKind() == Tree.Kind.REMAINDER_ASSIGNMENT) divisorIsLookedAt(t.getExpression());
        return super.visitCompoundAssignment(t, none);
    }

    /** A constant above 0, or a variable whose method has a line that keeps it above 0. */
    private void divisorIsLookedAt(ExpressionTree divisor) {
        Element e = trees.getElement(new TreePath(getCurrentPath(), divisor));
        boolean constant = divisor.getKind().name().endsWith("_LITERAL")
            || e instanceof VariableElement v && v.getConstantValue() instanceof Number n && n.longValue() > 0;
        TreePath around = getCurrentPath();
        while (around != null && !(around.getLeaf() instanceof MethodTree)) around = around.getParentPath();
        boolean tested = around != null && (around.getLeaf().toString().contains(divisor + " > 1")
            || around.getLeaf().toString().contains(divisor + " < 1"));
        rule(7, "the divisor " + divisor + " is looked at", constant || tested);
    }

    private boolean isText(Tree t) {
        TypeMirror type = trees.getTypeMirror(new TreePath(getCurrentPath(), t));
        return type != null && type.toString().equals("java.lang.String");
    }

    // ---- what is made and called

    /** The room is one for all calls of a run: what a constructor makes is used again. */
    private void isMadeOnce(Tree made) {
        boolean once = true;
        for (TreePath p = getCurrentPath(); p != null; p = p.getParentPath()) {
            if (p.getLeaf() instanceof MethodTree m) once &= m.getReturnType() == null;
        }
        rule(12, "made in a constructor or with a field: " + made, once);
    }

    @Override
    public Void visitNewArray(NewArrayTree t, Void none) {
        isMadeOnce(t);
        return super.visitNewArray(t, none);
    }

    @Override
    public Void visitNewClass(NewClassTree t, Void none) {
        isMadeOnce(t);
        called(trees.getElement(getCurrentPath()));
        return super.visitNewClass(t, none);
    }

    @Override
    public Void visitMethodInvocation(MethodInvocationTree t, Void none) {
        called(trees.getElement(new TreePath(getCurrentPath(), t.getMethodSelect())));
        return super.visitMethodInvocation(t, none);
    }

    private void called(Element e) {
        if (!(e instanceof ExecutableElement to)) return;
        String holder = to.getEnclosingElement().getSimpleName().toString();
        if (!own.contains(holder)) {
            rule(4, holder + "." + to.getSimpleName() + " is listed", allowed.contains(holder + "." + to.getSimpleName()));
            return;
        }
        for (TreePath p = getCurrentPath(); p != null; p = p.getParentPath()) {
            if (p.getLeaf() instanceof MethodTree) {
                calls.computeIfAbsent((ExecutableElement) trees.getElement(p), k -> new LinkedHashSet<>()).add(to);
            }
        }
    }

    // ---- how deep calls go

    private void callsGoEightDeep() {
        for (ExecutableElement m : calls.keySet()) {
            List<String> chain = deepest(m, new ArrayList<>());
            rule(11, chain.size() + " calls, eight at most: " + chain, chain.size() <= 8);
        }
    }

    /** Names of the longest chain that begins with this one; one that stands in it already is recursion. */
    private List<String> deepest(ExecutableElement m, List<ExecutableElement> open) {
        open.add(m);
        List<String> longest = List.of();
        for (ExecutableElement to : mayBeMeant(m)) {
            if (open.contains(to)) {
                Set<Modifier> how = to.getModifiers();
                rule(8, to + ", which calls itself, is private and static", to == m && how.contains(Modifier.PRIVATE) && how.contains(Modifier.STATIC));
                continue;
            }
            List<String> chain = deepest(to, open);
            if (chain.size() > longest.size()) longest = chain;
        }
        open.remove(open.size() - 1);
        List<String> all = new ArrayList<>(List.of(m.getEnclosingElement().getSimpleName() + "." + m.getSimpleName()));
        all.addAll(longest);
        return all;
    }

    /** What this one calls, or what stands in its place in a class under its own; a super call only goes up. */
    private Set<ExecutableElement> mayBeMeant(ExecutableElement m) {
        Set<ExecutableElement> all = new LinkedHashSet<>();
        for (ExecutableElement to : calls.getOrDefault(m, Set.of())) {
            all.add(to);
            boolean up = m.getSimpleName().equals(to.getSimpleName()) && m.getEnclosingElement() != to.getEnclosingElement();
            for (ExecutableElement other : calls.keySet()) {
                if (!up && task.getElements().overrides(other, to, (TypeElement) other.getEnclosingElement())) all.add(other);
            }
        }
        return all;
    }
}
