import com.sun.source.tree.AssertTree;
import com.sun.source.tree.BinaryTree;
import com.sun.source.tree.ClassTree;
import com.sun.source.tree.CompilationUnitTree;
import com.sun.source.tree.CompoundAssignmentTree;
import com.sun.source.tree.DoWhileLoopTree;
import com.sun.source.tree.ExpressionTree;
import com.sun.source.tree.ForLoopTree;
import com.sun.source.tree.IdentifierTree;
import com.sun.source.tree.LambdaExpressionTree;
import com.sun.source.tree.LiteralTree;
import com.sun.source.tree.MemberReferenceTree;
import com.sun.source.tree.MemberSelectTree;
import com.sun.source.tree.MethodInvocationTree;
import com.sun.source.tree.MethodTree;
import com.sun.source.tree.NewArrayTree;
import com.sun.source.tree.NewClassTree;
import com.sun.source.tree.PackageTree;
import com.sun.source.tree.SynchronizedTree;
import com.sun.source.tree.ThrowTree;
import com.sun.source.tree.Tree;
import com.sun.source.tree.TryTree;
import com.sun.source.tree.VariableTree;
import com.sun.source.tree.WhileLoopTree;
import com.sun.source.util.TreePath;
import com.sun.source.util.TreePathScanner;
import com.sun.source.util.Trees;
import java.util.ArrayList;
import java.util.HashMap;
import java.util.HashSet;
import java.util.LinkedHashSet;
import java.util.List;
import java.util.Map;
import java.util.Set;
import javax.lang.model.element.Element;
import javax.lang.model.element.ElementKind;
import javax.lang.model.element.ExecutableElement;
import javax.lang.model.element.Modifier;
import javax.lang.model.element.TypeElement;
import javax.lang.model.element.VariableElement;
import javax.lang.model.type.ArrayType;
import javax.lang.model.type.TypeKind;
import javax.lang.model.type.TypeMirror;

/**
 * Reads a class and notes what breaks a rule of LANGUAGE.md, as far as the compiler's trees tell. Where it
 * is stricter than the rules (no try, no recursion, nothing made after the constructor), the class is so.
 */
final class LanguageRules extends TreePathScanner<Void, Void> {
    private static final Set<String> TYPES = Set.of("Object", "String", "StringBuilder", "Integer", "Long",
            "Math", "System", "ArrayList", "List", "Iterator", "Iterable", "Comparable", "Arrays");
    private static final Set<String> EXCEPTIONS = Set.of("IllegalStateException", "IllegalArgumentException",
            "IndexOutOfBoundsException", "ArithmeticException", "UnsupportedOperationException",
            "NoSuchElementException", "RuntimeException");
    private static final Map<String, Set<String>> MEMBERS = Map.of(
            "String", Set.of("length", "charAt", "isEmpty", "equals", "indexOf", "substring", "toCharArray"),
            "StringBuilder", Set.of("append", "charAt", "setCharAt", "setLength", "deleteCharAt", "reverse",
                    "length", "toString"),
            "ArrayList", Set.of("add", "get", "set", "remove", "size", "isEmpty", "clear"),
            "List", Set.of("add", "get", "set", "remove", "size", "isEmpty", "clear", "of"),
            "System", Set.of("arraycopy"),
            "Arrays", Set.of("copyOf", "copyOfRange", "fill"),
            "Array", Set.of("length", "clone"));
    private static final int MOST_PARAMETERS = 7;
    private static final int MOST_LINES = 60;
    private static final int MOST_CLASSES = 12;
    private static final int MOST_FIELDS = 20;
    private static final int MOST_DEPTH = 8;

    private final CompilationUnitTree unit;
    private final Trees trees;
    private final Set<String> faults = new LinkedHashSet<>();
    private final Map<Element, Set<Element>> calls = new HashMap<>();
    private int classes = 0;

    LanguageRules(CompilationUnitTree unit, Trees trees) {
        this.unit = unit;
        this.trees = trees;
    }

    Set<String> faults() {
        scan(unit, null);
        if (unit.getTypeDecls().size() != 1) {
            note(1, unit, "not one class");
        }
        if (classes > MOST_CLASSES) {
            note(11, unit, "too many classes");
        }
        for (Element method : List.copyOf(calls.keySet())) {
            if (depth(method, new HashSet<>()) > MOST_DEPTH) {
                faults.add("rule 11: calls from " + method + " go too deep, or round");
            }
        }
        return faults;
    }

    private int depth(Element method, Set<Element> open) {
        if (!open.add(method)) {
            return MOST_DEPTH + 1;
        }
        int most = 0;
        for (Element called : calls.getOrDefault(method, Set.of())) {
            most = Math.max(most, depth(called, open));
        }
        open.remove(method);
        return most + 1;
    }

    private void note(int rule, Tree where, String what) {
        faults.add("rule " + rule + ": line " + lineOf(where, false) + ": " + what);
    }

    private long lineOf(Tree tree, boolean end) {
        long place = end ? trees.getSourcePositions().getEndPosition(unit, tree)
                : trees.getSourcePositions().getStartPosition(unit, tree);
        return place < 0 ? 0 : unit.getLineMap().getLineNumber(place);
    }

    private Element here() {
        return trees.getElement(getCurrentPath());
    }

    private MethodTree methodAround() {
        for (TreePath p = getCurrentPath(); p != null; p = p.getParentPath()) {
            if (p.getLeaf() instanceof MethodTree method) {
                return method;
            }
        }
        return null;
    }

    private static boolean isConstructor(MethodTree method) {
        return method.getReturnType() == null;
    }

    private static boolean isOwn(Element e) {
        Element outermost = e;
        while (outermost.getEnclosingElement() != null
                && outermost.getEnclosingElement().getKind() != ElementKind.PACKAGE) {
            outermost = outermost.getEnclosingElement();
        }
        return outermost.getSimpleName().contentEquals("TilePyramid");
    }

    @Override
    public Void visitPackage(PackageTree tree, Void none) {
        note(1, tree, "a package line");
        return super.visitPackage(tree, none);
    }

    @Override
    public Void visitClass(ClassTree tree, Void none) {
        classes++;
        Tree around = getCurrentPath().getParentPath().getLeaf();
        if (!(around instanceof CompilationUnitTree) && !(around instanceof ClassTree)) {
            note(2, tree, "a class inside a method");
        }
        int fields = 0;
        for (Tree member : tree.getMembers()) {
            boolean isField = member instanceof VariableTree;
            fields += isField && !((VariableTree) member).getModifiers().getFlags().contains(Modifier.STATIC)
                    ? 1 : 0;
            if (member.getKind() == Tree.Kind.BLOCK) {
                note(5, member, "an initialiser block");
            }
        }
        if (fields > MOST_FIELDS) {
            note(11, tree, "too many fields");
        }
        return super.visitClass(tree, none);
    }

    @Override
    public Void visitLambdaExpression(LambdaExpressionTree tree, Void none) {
        note(2, tree, "a lambda");
        return super.visitLambdaExpression(tree, none);
    }

    @Override
    public Void visitMemberReference(MemberReferenceTree tree, Void none) {
        note(2, tree, "a method reference");
        return super.visitMemberReference(tree, none);
    }

    @Override
    public Void visitVariable(VariableTree tree, Void none) {
        Element variable = here();
        typeOf(tree, variable.asType());
        boolean isStatic = variable.getModifiers().contains(Modifier.STATIC);
        boolean isConstant = variable instanceof VariableElement v && v.getConstantValue() != null;
        boolean isWrittenArray = tree.getInitializer() instanceof NewArrayTree array
                && array.getInitializers() != null;
        if (isStatic && (!variable.getModifiers().contains(Modifier.FINAL)
                || !isConstant && !isWrittenArray)) {
            note(5, tree, "static state");
        }
        return super.visitVariable(tree, none);
    }

    private void typeOf(Tree tree, TypeMirror type) {
        int dimensions = 0;
        TypeMirror inner = type;
        while (inner instanceof ArrayType array) {
            inner = array.getComponentType();
            dimensions++;
        }
        boolean isNumber = inner.getKind().isPrimitive() && inner.getKind() != TypeKind.BOOLEAN;
        if (dimensions > (isNumber ? 2 : 1)) {
            note(3, tree, "an array of " + dimensions + " dimensions");
        }
    }

    @Override
    public Void visitIdentifier(IdentifierTree tree, Void none) {
        looked(tree, here());
        return super.visitIdentifier(tree, none);
    }

    @Override
    public Void visitMemberSelect(MemberSelectTree tree, Void none) {
        looked(tree, here());
        return super.visitMemberSelect(tree, none);
    }

    /** Whatever is named is the class's own, or stands in the rules. */
    private void looked(Tree tree, Element e) {
        if (e == null || e.getKind() == ElementKind.PACKAGE) {
            return;
        }
        if (e instanceof TypeElement type) {
            String name = type.getSimpleName().toString();
            if (!isOwn(type) && !TYPES.contains(name) && !EXCEPTIONS.contains(name)) {
                note(4, tree, "the type " + name);
            }
        } else if (e instanceof ExecutableElement || e.getKind() == ElementKind.FIELD) {
            lookedAtMember(tree, e);
        }
    }

    private void lookedAtMember(Tree tree, Element e) {
        String owner = e.getEnclosingElement().getSimpleName().toString();
        String name = e.getSimpleName().toString();
        boolean isNumbers = owner.equals("Math") || owner.equals("Integer") || owner.equals("Long");
        boolean isFine = isOwn(e) || name.equals("<init>") || name.equals("super") || name.equals("this")
                || MEMBERS.getOrDefault(owner, Set.of()).contains(name)
                || isNumbers && !name.endsWith("Exact") && isWhole(e);
        if (!isFine) {
            note(4, tree, owner + "." + name);
        }
    }

    private static boolean isWhole(Element e) {
        TypeMirror type = e instanceof ExecutableElement method ? method.getReturnType() : e.asType();
        return type.getKind() == TypeKind.INT || type.getKind() == TypeKind.LONG;
    }

    @Override
    public Void visitMethod(MethodTree tree, Void none) {
        if (tree.getParameters().size() > MOST_PARAMETERS) {
            note(11, tree, "too many parameters");
        }
        if (lineOf(tree, true) - lineOf(tree, false) >= MOST_LINES) {
            note(11, tree, "too long");
        }
        calls.putIfAbsent(here(), new HashSet<>());
        return super.visitMethod(tree, none);
    }

    @Override
    public Void visitMethodInvocation(MethodInvocationTree tree, Void none) {
        called(here());
        return super.visitMethodInvocation(tree, none);
    }

    private void called(Element method) {
        MethodTree around = methodAround();
        if (around != null && method != null && isOwn(method)) {
            Element caller = trees.getElement(trees.getPath(unit, around));
            calls.computeIfAbsent(caller, any -> new HashSet<>()).add(method);
        }
    }

    @Override
    public Void visitNewClass(NewClassTree tree, Void none) {
        called(here());
        if (tree.getClassBody() != null) {
            note(2, tree, "a class without a name");
        }
        boolean isThrown = getCurrentPath().getParentPath().getLeaf() instanceof ThrowTree;
        made(tree, isThrown);
        return super.visitNewClass(tree, none);
    }

    @Override
    public Void visitNewArray(NewArrayTree tree, Void none) {
        made(tree, false);
        return super.visitNewArray(tree, none);
    }

    private void made(Tree tree, boolean isThrown) {
        MethodTree around = methodAround();
        if (around != null && !isConstructor(around) && !isThrown) {
            note(12, tree, "made behind the constructor");
        }
    }

    @Override
    public Void visitThrow(ThrowTree tree, Void none) {
        MethodTree around = methodAround();
        if (around != null && isConstructor(around)) {
            note(6, tree, "thrown in a constructor");
        }
        if (!(tree.getExpression() instanceof NewClassTree made) || !isAllowed(made)) {
            note(6, tree, "not an exception with a written text");
        }
        return super.visitThrow(tree, none);
    }

    private static boolean isAllowed(NewClassTree made) {
        List<ExpressionTree> texts = new ArrayList<>(made.getArguments());
        texts.removeIf(text -> text.getKind() == Tree.Kind.STRING_LITERAL);
        return EXCEPTIONS.contains(made.getIdentifier().toString()) && texts.isEmpty();
    }

    @Override
    public Void visitTry(TryTree tree, Void none) {
        note(6, tree, "try");
        return super.visitTry(tree, none);
    }

    @Override
    public Void visitAssert(AssertTree tree, Void none) {
        note(6, tree, "assert");
        return super.visitAssert(tree, none);
    }

    @Override
    public Void visitSynchronized(SynchronizedTree tree, Void none) {
        note(6, tree, "synchronized");
        return super.visitSynchronized(tree, none);
    }

    @Override
    public Void visitForLoop(ForLoopTree tree, Void none) {
        ends(tree, tree.getCondition());
        return super.visitForLoop(tree, none);
    }

    @Override
    public Void visitWhileLoop(WhileLoopTree tree, Void none) {
        ends(tree, tree.getCondition());
        return super.visitWhileLoop(tree, none);
    }

    @Override
    public Void visitDoWhileLoop(DoWhileLoopTree tree, Void none) {
        ends(tree, tree.getCondition());
        return super.visitDoWhileLoop(tree, none);
    }

    private void ends(Tree loop, ExpressionTree condition) {
        String text = condition == null ? "" : condition.toString().replaceAll("[()]", "");
        if (text.isEmpty() || text.equals("true")) {
            note(9, loop, "a loop without an end");
        }
    }

    @Override
    public Void visitBinary(BinaryTree tree, Void none) {
        joined(tree);
        return super.visitBinary(tree, none);
    }

    @Override
    public Void visitCompoundAssignment(CompoundAssignmentTree tree, Void none) {
        joined(tree);
        return super.visitCompoundAssignment(tree, none);
    }

    private void joined(Tree tree) {
        if (String.valueOf(trees.getTypeMirror(getCurrentPath())).equals("java.lang.String")) {
            note(10, tree, "texts joined by +");
        }
    }

    @Override
    public Void visitLiteral(LiteralTree tree, Void none) {
        if (tree.getValue() instanceof String text && text.chars().anyMatch(c -> c > 255)) {
            note(3, tree, "a character above 255");
        }
        return super.visitLiteral(tree, none);
    }
}
