import com.sun.source.tree.AssertTree;
import com.sun.source.tree.BinaryTree;
import com.sun.source.tree.BlockTree;
import com.sun.source.tree.ClassTree;
import com.sun.source.tree.CompilationUnitTree;
import com.sun.source.tree.CompoundAssignmentTree;
import com.sun.source.tree.DoWhileLoopTree;
import com.sun.source.tree.ExpressionTree;
import com.sun.source.tree.ForLoopTree;
import com.sun.source.tree.IdentifierTree;
import com.sun.source.tree.ImportTree;
import com.sun.source.tree.LambdaExpressionTree;
import com.sun.source.tree.LiteralTree;
import com.sun.source.tree.MemberReferenceTree;
import com.sun.source.tree.MemberSelectTree;
import com.sun.source.tree.MethodInvocationTree;
import com.sun.source.tree.MethodTree;
import com.sun.source.tree.NewArrayTree;
import com.sun.source.tree.NewClassTree;
import com.sun.source.tree.PackageTree;
import com.sun.source.tree.ParenthesizedTree;
import com.sun.source.tree.SynchronizedTree;
import com.sun.source.tree.ThrowTree;
import com.sun.source.tree.Tree;
import com.sun.source.tree.TryTree;
import com.sun.source.tree.TypeCastTree;
import com.sun.source.tree.VariableTree;
import com.sun.source.tree.WhileLoopTree;
import com.sun.source.util.JavacTask;
import com.sun.source.util.TreePath;
import com.sun.source.util.TreePathScanner;
import com.sun.source.util.Trees;
import java.io.IOException;
import java.net.URI;
import java.util.ArrayList;
import java.util.LinkedHashMap;
import java.util.LinkedHashSet;
import java.util.List;
import java.util.Map;
import java.util.Set;
import javax.lang.model.element.Element;
import javax.lang.model.element.ElementKind;
import javax.lang.model.element.ExecutableElement;
import javax.lang.model.element.Modifier;
import javax.lang.model.element.TypeElement;
import javax.lang.model.type.ArrayType;
import javax.lang.model.type.DeclaredType;
import javax.lang.model.type.TypeKind;
import javax.lang.model.type.TypeMirror;
import javax.tools.Diagnostic;
import javax.tools.DiagnosticListener;
import javax.tools.JavaFileObject;
import javax.tools.SimpleJavaFileObject;
import javax.tools.ToolProvider;

/**
 * The rules of LANGUAGE.md, held against the tree that the compiler makes of a source. Where the class needs less than
 * a rule leaves, less is asked: no imports, no lists, and nothing made but by fields.
 */
final class SourceRules extends TreePathScanner<Void, Void> {
    private static final int MOST_PARAMETERS = 7;
    private static final int MOST_LINES = 60;
    private static final int MOST_DEEP = 8;
    private static final int MOST_CLASSES = 12;
    private static final int MOST_FIELDS = 20;

    private static final Set<String> LIBRARY = Set.of(
        "java.lang.String.length", "java.lang.String.charAt", "java.lang.String.isEmpty", "java.lang.String.equals",
        "java.lang.Integer.bitCount", "java.lang.Integer.max", "java.lang.Integer.min", "java.lang.Math.max",
        "java.lang.Math.min", "java.lang.Math.abs", "java.lang.System.arraycopy", "java.lang.Object.<init>");

    private final Trees trees;
    private final JavacTask task;
    private final CompilationUnitTree unit;
    private final List<String> broken = new ArrayList<>();
    private final Map<Element, Set<Element>> calls = new LinkedHashMap<>();
    private final List<TypeElement> classes = new ArrayList<>();
    private Element caller;

    private SourceRules(JavacTask task, CompilationUnitTree unit) {
        this.task = task;
        this.unit = unit;
        trees = Trees.instance(task);
    }

    private static final class Source extends SimpleJavaFileObject {
        private final String words;

        Source(String words) {
            super(URI.create("mem:///PressedPad.java"), Kind.SOURCE);
            this.words = words;
        }

        @Override
        public CharSequence getCharContent(boolean ignored) {
            return words;
        }
    }

    /** What the rules are broken by in a source, each with its rule and line; none, if they all hold. */
    static List<String> brokenIn(String source) throws IOException {
        List<String> errors = new ArrayList<>();
        DiagnosticListener<JavaFileObject> listener = d -> {
            if (d.getKind() == Diagnostic.Kind.ERROR) {
                errors.add("not Java 17: " + d.getMessage(null));
            }
        };
        List<String> options = List.of("--release", "17", "-proc:none");
        JavacTask task = (JavacTask) ToolProvider.getSystemJavaCompiler()
            .getTask(null, null, listener, options, null, List.of(new Source(source)));
        CompilationUnitTree unit = task.parse().iterator().next();
        task.analyze();
        if (!errors.isEmpty()) {
            return errors;
        }
        SourceRules rules = new SourceRules(task, unit);
        rules.scan(unit, null);
        rules.shape();
        rules.depth();
        return rules.broken;
    }

    private void refuse(int rule, Tree at, String what) {
        long place = at == null ? -1 : trees.getSourcePositions().getStartPosition(unit, at);
        String line = place < 0 ? "" : ", line " + unit.getLineMap().getLineNumber(place);
        broken.add("rule " + rule + line + ": " + what);
    }

    private void refuseIf(boolean so, int rule, Tree at, String what) {
        if (so) {
            refuse(rule, at, what);
        }
    }

    private boolean isOwn(Element e) {
        Element at = e;
        while (at != null && at.getEnclosingElement() instanceof TypeElement) {
            at = at.getEnclosingElement();
        }
        return at != null && at.getSimpleName().contentEquals("PressedPad");
    }

    private static boolean isText(TypeMirror type) {
        return type != null && type.toString().equals("java.lang.String");
    }

    private TypeMirror typeOf(ExpressionTree part) {
        return trees.getTypeMirror(new TreePath(getCurrentPath(), part));
    }

    private boolean isKept(TypeMirror type, int dimensions) {
        if (type.getKind().isPrimitive()) {
            return type.getKind() != TypeKind.DOUBLE && type.getKind() != TypeKind.FLOAT;
        }
        if (type instanceof ArrayType array) {
            boolean numbers = array.getComponentType().getKind().isPrimitive();
            return (dimensions == 0 || dimensions == 1 && numbers) && isKept(array.getComponentType(), dimensions + 1);
        }
        boolean own = type instanceof DeclaredType declared && isOwn(declared.asElement());
        return own && dimensions <= 1 || isText(type) && dimensions == 0;
    }

    // ---- rules 1 and 11: the file's shape

    private void shape() {
        refuseIf(unit.getTypeDecls().size() != 1, 1, null, "one class in the file");
        refuseIf(classes.size() > MOST_CLASSES, 11, null, classes.size() + " classes");
    }

    @Override
    public Void visitPackage(PackageTree node, Void none) {
        refuse(1, node, "a package line");
        return null;
    }

    @Override
    public Void visitImport(ImportTree node, Void none) {
        refuse(4, node, "an import");
        return null;
    }

    @Override
    public Void visitClass(ClassTree node, Void none) {
        Tree around = getCurrentPath().getParentPath().getLeaf();
        boolean top = around instanceof CompilationUnitTree;
        TypeElement element = (TypeElement) trees.getElement(getCurrentPath());
        refuseIf(!top && !(around instanceof ClassTree), 2, node, "a local or anonymous class");
        refuseIf(!top && !element.getModifiers().contains(Modifier.STATIC), 2, node, "a class that isn't static");
        classes.add(element);
        int fields = 0;
        for (Tree member : node.getMembers()) {
            boolean own = member instanceof VariableTree field
                && !field.getModifiers().getFlags().contains(Modifier.STATIC);
            fields += own ? 1 : 0;
        }
        refuseIf(fields > MOST_FIELDS, 11, node, fields + " fields");
        return super.visitClass(node, none);
    }

    @Override
    public Void visitMethod(MethodTree node, Void none) {
        Element before = caller;
        caller = trees.getElement(getCurrentPath());
        calls.computeIfAbsent(caller, k -> new LinkedHashSet<>());
        refuseIf(node.getParameters().size() > MOST_PARAMETERS, 11, node, node.getParameters().size() + " parameters");
        long from = trees.getSourcePositions().getStartPosition(unit, node);
        long to = trees.getSourcePositions().getEndPosition(unit, node);
        if (from >= 0 && to >= 0) {
            long lines = unit.getLineMap().getLineNumber(to) - unit.getLineMap().getLineNumber(from) + 1;
            refuseIf(lines > MOST_LINES, 11, node, lines + " lines");
        }
        refuseIf(!node.getThrows().isEmpty(), 6, node, "throws");
        namesOf(node);
        super.visitMethod(node, none);
        caller = before;
        return null;
    }

    private void namesOf(MethodTree node) {
        String name = node.getName().toString();
        boolean named = Set.of("equals", "hashCode", "toString", "finalize").contains(name);
        refuseIf(named, 6, node, "a method " + name);
        boolean inside = !caller.getEnclosingElement().getSimpleName().contentEquals("PressedPad");
        boolean open = caller.getModifiers().contains(Modifier.PUBLIC);
        refuseIf(inside && open && caller.getKind() == ElementKind.METHOD, 1, node, "a public method inside");
    }

    // ---- rules 3 and 5: types and static fields

    @Override
    public Void visitVariable(VariableTree node, Void none) {
        Element element = trees.getElement(getCurrentPath());
        refuseIf(!isKept(element.asType(), 0), 3, node, "the type " + element.asType());
        if (element.getModifiers().contains(Modifier.STATIC)) {
            boolean constant = element.asType().getKind().isPrimitive() || isText(element.asType());
            boolean row = node.getInitializer() instanceof NewArrayTree;
            refuseIf(!element.getModifiers().contains(Modifier.FINAL) || !constant && !row, 5, node, "static state");
        }
        return super.visitVariable(node, none);
    }

    @Override
    public Void visitBlock(BlockTree node, Void none) {
        refuseIf(node.isStatic(), 5, node, "a static initialiser");
        return super.visitBlock(node, none);
    }

    // ---- rules 2, 6 and 10: what may not be written

    @Override
    public Void visitLambdaExpression(LambdaExpressionTree node, Void none) {
        refuse(2, node, "a lambda");
        return super.visitLambdaExpression(node, none);
    }

    @Override
    public Void visitMemberReference(MemberReferenceTree node, Void none) {
        refuse(2, node, "a method reference");
        return super.visitMemberReference(node, none);
    }

    @Override
    public Void visitThrow(ThrowTree node, Void none) {
        refuse(6, node, "throw");
        return super.visitThrow(node, none);
    }

    @Override
    public Void visitTry(TryTree node, Void none) {
        refuse(6, node, "try");
        return super.visitTry(node, none);
    }

    @Override
    public Void visitSynchronized(SynchronizedTree node, Void none) {
        refuse(6, node, "synchronized");
        return super.visitSynchronized(node, none);
    }

    @Override
    public Void visitAssert(AssertTree node, Void none) {
        refuse(6, node, "assert");
        return super.visitAssert(node, none);
    }

    @Override
    public Void visitTypeCast(TypeCastTree node, Void none) {
        TypeMirror to = trees.getTypeMirror(getCurrentPath());
        refuseIf(!to.getKind().isPrimitive(), 6, node, "a cast to " + to);
        return super.visitTypeCast(node, none);
    }

    @Override
    public Void visitBinary(BinaryTree node, Void none) {
        boolean texts = isText(typeOf(node.getLeftOperand())) || isText(typeOf(node.getRightOperand()));
        refuseIf(texts && node.getKind() == Tree.Kind.PLUS, 10, node, "texts joined by +");
        boolean alike = node.getKind() == Tree.Kind.EQUAL_TO || node.getKind() == Tree.Kind.NOT_EQUAL_TO;
        refuseIf(texts && alike, 6, node, "== of texts");
        return super.visitBinary(node, none);
    }

    @Override
    public Void visitCompoundAssignment(CompoundAssignmentTree node, Void none) {
        refuseIf(isText(typeOf(node.getVariable())), 10, node, "texts joined by +=");
        return super.visitCompoundAssignment(node, none);
    }

    // ---- rule 9: loops

    private void loop(Tree node, ExpressionTree condition) {
        ExpressionTree bare = condition;
        while (bare instanceof ParenthesizedTree p) {
            bare = p.getExpression();
        }
        refuseIf(bare == null || bare instanceof LiteralTree, 9, node, "a loop without an end");
    }

    @Override
    public Void visitWhileLoop(WhileLoopTree node, Void none) {
        loop(node, node.getCondition());
        return super.visitWhileLoop(node, none);
    }

    @Override
    public Void visitDoWhileLoop(DoWhileLoopTree node, Void none) {
        loop(node, node.getCondition());
        return super.visitDoWhileLoop(node, none);
    }

    @Override
    public Void visitForLoop(ForLoopTree node, Void none) {
        loop(node, node.getCondition());
        return super.visitForLoop(node, none);
    }

    // ---- rules 4, 12 and 13: the library, and what is made

    private void library(Tree node, Element e) {
        boolean member = e != null && (e.getKind() == ElementKind.FIELD || e instanceof ExecutableElement);
        if (member && !isOwn(e) && e.getEnclosingElement() instanceof TypeElement owner) {
            String name = owner.getQualifiedName() + "." + e.getSimpleName();
            boolean length = name.endsWith("Array.length");
            refuseIf(!LIBRARY.contains(name) && !length, 4, node, name);
        }
    }

    @Override
    public Void visitMemberSelect(MemberSelectTree node, Void none) {
        library(node, trees.getElement(getCurrentPath()));
        return super.visitMemberSelect(node, none);
    }

    @Override
    public Void visitIdentifier(IdentifierTree node, Void none) {
        library(node, trees.getElement(getCurrentPath()));
        return super.visitIdentifier(node, none);
    }

    @Override
    public Void visitNewClass(NewClassTree node, Void none) {
        refuseIf(caller != null, 12, node, "an object made by a call");
        Element made = trees.getElement(getCurrentPath());
        refuseIf(made != null && !isOwn(made), 4, node, "an object of the library's");
        return super.visitNewClass(node, none);
    }

    @Override
    public Void visitNewArray(NewArrayTree node, Void none) {
        refuseIf(caller != null, 12, node, "an array made by a call");
        return super.visitNewArray(node, none);
    }

    // ---- rules 8 and 11: calls

    @Override
    public Void visitMethodInvocation(MethodInvocationTree node, Void none) {
        Element callee = trees.getElement(new TreePath(getCurrentPath(), node.getMethodSelect()));
        if (caller != null && callee instanceof ExecutableElement && isOwn(callee)) {
            boolean above = node.getMethodSelect() instanceof MemberSelectTree select
                && select.getExpression().toString().equals("super");
            calls.get(caller).add(callee);
            if (!above) {
                calls.get(caller).addAll(overriding((ExecutableElement) callee));
            }
        }
        return super.visitMethodInvocation(node, none);
    }

    /** A call goes to the method that is named or to one that stands over it in a class below. */
    private List<Element> overriding(ExecutableElement named) {
        List<Element> over = new ArrayList<>();
        Element top = trees.getElement(new TreePath(new TreePath(unit), unit.getTypeDecls().get(0)));
        for (Element inside : top.getEnclosedElements()) {
            for (Element e : inside.getEnclosedElements()) {
                boolean is = inside instanceof TypeElement type && e instanceof ExecutableElement one
                    && task.getElements().overrides(one, named, type);
                if (is) {
                    over.add(e);
                }
            }
        }
        return over;
    }

    private void depth() {
        for (Element from : calls.keySet()) {
            if (from.getModifiers().contains(Modifier.PUBLIC)) {
                int deep = deepest(from, new LinkedHashSet<>());
                refuseIf(deep > MOST_DEEP, 11, null, from + " goes " + deep + " calls deep");
            }
        }
    }

    private int deepest(Element at, Set<Element> open) {
        int deep = 0;
        Set<Element> called = calls.getOrDefault(at, Set.of());
        boolean closed = at.getModifiers().contains(Modifier.PRIVATE);
        refuseIf(called.contains(at) && !closed, 8, null, at + " calls itself and is not private");
        open.add(at);
        for (Element next : called) {
            refuseIf(open.contains(next) && next != at, 8, null, next + " is called by " + at + " while it is open");
            if (!open.contains(next)) {
                deep = Math.max(deep, deepest(next, open));
            }
        }
        open.remove(at);
        return deep + 1;
    }
}
