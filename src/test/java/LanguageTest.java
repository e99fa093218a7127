import com.sun.source.tree.AnnotationTree;
import com.sun.source.tree.AssertTree;
import com.sun.source.tree.ClassTree;
import com.sun.source.tree.CompilationUnitTree;
import com.sun.source.tree.DoWhileLoopTree;
import com.sun.source.tree.ForLoopTree;
import com.sun.source.tree.IdentifierTree;
import com.sun.source.tree.ImportTree;
import com.sun.source.tree.LambdaExpressionTree;
import com.sun.source.tree.LineMap;
import com.sun.source.tree.MemberReferenceTree;
import com.sun.source.tree.MemberSelectTree;
import com.sun.source.tree.MethodInvocationTree;
import com.sun.source.tree.MethodTree;
import com.sun.source.tree.NewArrayTree;
import com.sun.source.tree.NewClassTree;
import com.sun.source.tree.SynchronizedTree;
import com.sun.source.tree.ThrowTree;
import com.sun.source.tree.Tree;
import com.sun.source.tree.TryTree;
import com.sun.source.tree.VariableTree;
import com.sun.source.tree.WhileLoopTree;
import com.sun.source.util.JavacTask;
import com.sun.source.util.TreePath;
import com.sun.source.util.TreePathScanner;
import com.sun.source.util.Trees;
import java.nio.file.Path;
import java.util.HashMap;
import java.util.HashSet;
import java.util.List;
import java.util.Map;
import java.util.Set;
import java.util.TreeSet;
import javax.lang.model.element.Element;
import javax.lang.model.element.ElementKind;
import javax.lang.model.element.ExecutableElement;
import javax.lang.model.element.Modifier;
import javax.lang.model.element.VariableElement;
import javax.lang.model.type.ArrayType;
import javax.lang.model.type.DeclaredType;
import javax.lang.model.type.TypeKind;
import javax.lang.model.type.TypeMirror;
import javax.tools.JavaCompiler;
import javax.tools.StandardJavaFileManager;
import javax.tools.ToolProvider;

/** The rules of LANGUAGE.md that can be read off the class's source, by their numbers. */
public final class LanguageTest extends TreePathScanner<Void, Void> {
    private static final Due DUE = new Due("LanguageTest");
    private static final Path SOURCE = Path.of("src", "main", "java", "FilterProof.java");
    /** What the class uses of the library that rule 4 lists. */
    private static final Set<String> LIBRARY = Set.of(
        "java.lang.Math.max", "java.lang.Math.min", "java.util.Arrays.fill", "java.lang.Object.<init>");

    private final Trees trees;
    private final CompilationUnitTree unit;
    private final LineMap lines;
    private final Map<Element, Set<Element>> calls = new HashMap<>();
    private final Map<Element, Integer> depths = new HashMap<>();
    private final Set<String> faceNames = new TreeSet<>();
    private Element method;
    private int classes;

    private LanguageTest(Trees trees, CompilationUnitTree unit) {
        this.trees = trees;
        this.unit = unit;
        lines = unit.getLineMap();
    }

    public static void main(String[] args) throws Exception {
        JavaCompiler compiler = ToolProvider.getSystemJavaCompiler();
        try (StandardJavaFileManager files = compiler.getStandardFileManager(null, null, null)) {
            JavacTask task = (JavacTask) compiler.getTask(null, files, null, List.of("--release", "17"), null,
                files.getJavaFileObjects(SOURCE));
            CompilationUnitTree unit = task.parse().iterator().next();
            task.analyze();
            LanguageTest test = new LanguageTest(Trees.instance(task), unit);
            DUE.is("no package line", unit.getPackageName() == null, true);
            test.scan(new TreePath(unit), null);
            test.rule8and11();
        }
        DUE.end();
    }

    private void holds(int rule, String what, Tree at, boolean well) {
        long line = lines.getLineNumber(trees.getSourcePositions().getStartPosition(unit, at));
        DUE.is("rule " + rule + ", line " + line + ": " + what, well, true);
    }

    private Void outside(int rule, String what, Tree at) {
        holds(rule, what, at, false);
        return null;
    }

    private Element here() {
        return trees.getElement(getCurrentPath());
    }

    private static boolean isOwn(Element e) {
        Element top = e;
        while (top.getEnclosingElement() != null && top.getEnclosingElement().getKind() != ElementKind.PACKAGE) {
            top = top.getEnclosingElement();
        }
        return top.getSimpleName().contentEquals("FilterProof");
    }

    // ---- rules 1, 2, 11: classes, methods and fields

    @Override
    public Void visitImport(ImportTree node, Void none) {
        holds(4, "import " + node.getQualifiedIdentifier(), node,
            node.getQualifiedIdentifier().toString().equals("java.util.Arrays"));
        return null;
    }

    @Override
    public Void visitClass(ClassTree node, Void none) {
        classes++;
        Element own = here();
        boolean isFace = own.getEnclosingElement().getKind() == ElementKind.PACKAGE;
        Set<Modifier> modifiers = own.getModifiers();
        holds(2, "a class inside is static", node, isFace || modifiers.contains(Modifier.STATIC));
        holds(1, "a class inside is not public", node, isFace || !modifiers.contains(Modifier.PUBLIC));
        int fields = 0;
        for (Tree member : node.getMembers()) {
            holds(5, "no static initialiser block", member, member.getKind() != Tree.Kind.BLOCK);
            Element e = trees.getElement(new TreePath(getCurrentPath(), member));
            fields += member instanceof VariableTree && !e.getModifiers().contains(Modifier.STATIC) ? 1 : 0;
            if (isFace && e.getKind() == ElementKind.METHOD && e.getModifiers().contains(Modifier.PUBLIC)) {
                faceNames.add(e.getSimpleName().toString());
            }
        }
        holds(11, node.getSimpleName() + " has " + fields + " fields", node, fields <= 20);
        return super.visitClass(node, none);
    }

    @Override
    public Void visitMethod(MethodTree node, Void none) {
        Element before = method;
        method = here();
        calls.putIfAbsent(method, new HashSet<>());
        String name = node.getName().toString();
        holds(11, name + " takes at most seven parameters", node, node.getParameters().size() <= 7);
        long first = lines.getLineNumber(trees.getSourcePositions().getStartPosition(unit, node));
        long last = lines.getLineNumber(trees.getSourcePositions().getEndPosition(unit, node));
        holds(11, name + " has at most sixty lines", node, last - first < 60);
        holds(1, name + " is a name of the face", node,
            method.getModifiers().contains(Modifier.PUBLIC) || !faceNames.contains(name));
        holds(6, name + " tells no exceptions", node, node.getThrows().isEmpty());
        super.visitMethod(node, none);
        method = before;
        return null;
    }

    // ---- rules 3, 5: types and static fields

    @Override
    public Void visitVariable(VariableTree node, Void none) {
        VariableElement e = (VariableElement) here();
        holds(3, node.getName() + " is " + e.asType(), node, isAllowed(e.asType()));
        if (e.getKind() == ElementKind.FIELD && e.getModifiers().contains(Modifier.STATIC)) {
            holds(5, node.getName() + " is a constant", node, e.getConstantValue() != null);
        }
        return super.visitVariable(node, none);
    }

    private boolean isAllowed(TypeMirror type) {
        if (type.getKind() != TypeKind.ARRAY) {
            return isNumber(type) || type.getKind() == TypeKind.BOOLEAN || isOwnType(type);
        }
        TypeMirror part = ((ArrayType) type).getComponentType();
        if (part.getKind() != TypeKind.ARRAY) {
            return isAllowed(part);
        }
        return isNumber(((ArrayType) part).getComponentType());
    }

    /** The class does without float and double. */
    private static boolean isNumber(TypeMirror type) {
        TypeKind kind = type.getKind();
        return kind.isPrimitive() && kind != TypeKind.BOOLEAN && kind != TypeKind.FLOAT && kind != TypeKind.DOUBLE;
    }

    private boolean isOwnType(TypeMirror type) {
        return type.getKind() == TypeKind.DECLARED
            && isOwn(((DeclaredType) type).asElement());
    }

    // ---- rule 4: the library

    @Override
    public Void visitMethodInvocation(MethodInvocationTree node, Void none) {
        Element called = here();
        String name = called.getEnclosingElement() + "." + called.getSimpleName();
        holds(4, name, node, isOwn(called) || LIBRARY.contains(name));
        if (name.equals("java.util.Arrays.fill")) {
            TypeMirror row = ((ExecutableElement) called).getParameters().get(0).asType();
            holds(4, "fill of " + row, node, isNumber(((ArrayType) row).getComponentType()));
        }
        if (method != null) {
            calls.get(method).add(called);
        }
        return super.visitMethodInvocation(node, none);
    }

    @Override
    public Void visitMemberSelect(MemberSelectTree node, Void none) {
        Element e = here();
        boolean isLength = node.getIdentifier().contentEquals("length");
        boolean isField = e != null && (e.getKind() == ElementKind.FIELD || e.getKind() == ElementKind.ENUM_CONSTANT);
        holds(4, node + " is a field of the library", node, !isField || isLength || isOwn(e));
        return super.visitMemberSelect(node, none);
    }

    @Override
    public Void visitIdentifier(IdentifierTree node, Void none) {
        Element e = here();
        boolean isField = e != null && e.getKind() == ElementKind.FIELD && e.getEnclosingElement() != null;
        holds(4, node + " is a field of the library", node, !isField || isOwn(e));
        return super.visitIdentifier(node, none);
    }

    // ---- rule 12, more strictly: no call makes an object

    @Override
    public Void visitNewClass(NewClassTree node, Void none) {
        Element made = here();
        holds(12, node + " in a call", node, method == null || method.getKind() == ElementKind.CONSTRUCTOR);
        holds(4, node + " of the library", node, isOwn(made));
        holds(2, node + " has no body", node, node.getClassBody() == null);
        if (method != null) {
            calls.get(method).add(made);
        }
        return super.visitNewClass(node, none);
    }

    @Override
    public Void visitNewArray(NewArrayTree node, Void none) {
        holds(12, node + " in a call", node, method == null || method.getKind() == ElementKind.CONSTRUCTOR);
        return super.visitNewArray(node, none);
    }

    // ---- rules 8 and 11: no recursion, and calls at most eight deep

    private void rule8and11() {
        DUE.is("rule 11: at most twelve classes, not " + classes, classes <= 12, true);
        int deepest = 0;
        for (Element e : calls.keySet()) {
            deepest = Math.max(deepest, depth(e));
        }
        DUE.is("rule 11: calls at most eight deep, not " + deepest, deepest <= 8, true);
    }

    private int depth(Element called) {
        Integer known = depths.get(called);
        if (known != null) {
            DUE.is("rule 8: " + called + " calls itself", known == 0, false);
            return known;
        }
        depths.put(called, 0);
        int below = 0;
        for (Element next : calls.getOrDefault(called, Set.of())) {
            below = Math.max(below, depth(next));
        }
        depths.put(called, 1 + below);
        return 1 + below;
    }

    // ---- rule 9: a loop that tells no end

    @Override
    public Void visitForLoop(ForLoopTree node, Void none) {
        holds(9, "a for without a bound", node, node.getCondition() != null && !node.getUpdate().isEmpty());
        return super.visitForLoop(node, none);
    }

    @Override
    public Void visitWhileLoop(WhileLoopTree node, Void none) {
        holds(9, "a while without a bound", node, node.getCondition().toString().contains("<"));
        return super.visitWhileLoop(node, none);
    }

    @Override
    public Void visitDoWhileLoop(DoWhileLoopTree node, Void none) {
        return outside(9, "a do whose bound stands behind it", node);
    }

    // ---- rules 2 and 6: what the class does without

    @Override
    public Void visitLambdaExpression(LambdaExpressionTree node, Void none) {
        return outside(2, "a lambda", node);
    }

    @Override
    public Void visitMemberReference(MemberReferenceTree node, Void none) {
        return outside(2, "a method reference", node);
    }

    @Override
    public Void visitThrow(ThrowTree node, Void none) {
        return outside(6, "the document knows no exception", node);
    }

    @Override
    public Void visitTry(TryTree node, Void none) {
        return outside(6, "nothing to catch", node);
    }

    @Override
    public Void visitSynchronized(SynchronizedTree node, Void none) {
        return outside(6, "synchronized", node);
    }

    @Override
    public Void visitAssert(AssertTree node, Void none) {
        return outside(6, "assert", node);
    }

    @Override
    public Void visitAnnotation(AnnotationTree node, Void none) {
        return outside(4, "an annotation", node);
    }
}
