import com.sun.source.tree.*;
import com.sun.source.util.JavacTask;
import com.sun.source.util.SourcePositions;
import com.sun.source.util.TreePath;
import com.sun.source.util.TreePathScanner;
import com.sun.source.util.Trees;
import java.io.IOException;
import java.net.URI;
import java.util.ArrayList;
import java.util.HashMap;
import java.util.LinkedHashSet;
import java.util.List;
import java.util.Map;
import java.util.Set;
import java.util.TreeSet;
import javax.lang.model.element.Element;
import javax.lang.model.element.ElementKind;
import javax.lang.model.element.ExecutableElement;
import javax.lang.model.element.Modifier;
import javax.lang.model.element.TypeElement;
import javax.lang.model.type.ArrayType;
import javax.lang.model.type.TypeKind;
import javax.lang.model.type.TypeMirror;
import javax.tools.DiagnosticCollector;
import javax.tools.JavaFileObject;
import javax.tools.SimpleJavaFileObject;
import javax.tools.ToolProvider;

/** What in a source is outside ../shared/LANGUAGE.md, as far as its text can tell; stricter than the rules where the class needs less. */
final class Language extends TreePathScanner<Void, Void> {
    private static final Set<String> LIBRARY = Set.of(
        "String.length", "String.charAt", "Integer.bitCount", "Math.min", "Math.max", "System.arraycopy",
        "NoSuchElementException.<init>", "Object.<init>");
    private static final Set<Tree.Kind> OUTSIDE = Set.of(
        Tree.Kind.LAMBDA_EXPRESSION, Tree.Kind.MEMBER_REFERENCE, Tree.Kind.TRY, Tree.Kind.SYNCHRONIZED, Tree.Kind.ASSERT,
        Tree.Kind.INSTANCE_OF, Tree.Kind.ENHANCED_FOR_LOOP, Tree.Kind.FLOAT_LITERAL, Tree.Kind.DOUBLE_LITERAL, Tree.Kind.SWITCH_EXPRESSION);
    private static final int LONGEST = 60;
    private static final int DEEPEST = 8;
    private static final int MOST_CLASSES = 12;
    private static final int MOST_FIELDS = 20;
    private static final int MOST_PARAMETERS = 7;

    private final Set<String> faults = new TreeSet<>();
    private final Map<ExecutableElement, Set<ExecutableElement>> calls = new HashMap<>();
    private final Map<Element, Integer> fields = new HashMap<>();
    private final Trees trees;
    private final CompilationUnitTree unit;
    private int classes = 0;
    private ExecutableElement inMethod = null;
    private int loops = 0;

    private Language(Trees trees, CompilationUnitTree unit) {
        this.trees = trees;
        this.unit = unit;
    }

    /** Each fault begins with the number of its rule. */
    static Set<String> faults(String source) throws IOException {
        JavaFileObject file = new SimpleJavaFileObject(URI.create("string:///TreePeers.java"), JavaFileObject.Kind.SOURCE) {
            @Override
            public CharSequence getCharContent(boolean ignored) {
                return source;
            }
        };
        DiagnosticCollector<JavaFileObject> said = new DiagnosticCollector<>();
        JavacTask task = (JavacTask) ToolProvider.getSystemJavaCompiler()
            .getTask(null, null, said, List.of("--release", "17", "-proc:none"), null, List.of(file));
        CompilationUnitTree unit = task.parse().iterator().next();
        task.analyze();
        Language language = new Language(Trees.instance(task), unit);
        said.getDiagnostics().forEach(d -> language.faults.add("0: it does not compile: " + d.getMessage(null)));
        if (language.faults.isEmpty()) {
            language.scan(new TreePath(unit), null);
            language.endCounts();
            language.callGraph();
        }
        return language.faults;
    }

    private void fault(int rule, String what, Tree at) {
        SourcePositions positions = trees.getSourcePositions();
        faults.add(rule + ": " + what + ", line " + unit.getLineMap().getLineNumber(positions.getStartPosition(unit, at)));
    }

    private Element element() {
        return trees.getElement(getCurrentPath());
    }

    private boolean isOwn(Element e) {
        for (Element x = e; x != null; x = x.getEnclosingElement()) {
            if (x.getSimpleName().contentEquals("TreePeers")) {
                return true;
            }
        }
        return false;
    }

    @Override
    public Void scan(Tree tree, Void v) {
        if (tree != null && OUTSIDE.contains(tree.getKind())) {
            fault(2, "no " + tree.getKind() + " is needed", tree);
        }
        return super.scan(tree, v);
    }

    @Override
    public Void visitCompilationUnit(CompilationUnitTree node, Void v) {
        if (node.getPackageName() != null) {
            fault(1, "a package line", node);
        }
        if (node.getTypeDecls().size() != 1) {
            fault(1, "not one class", node);
        }
        for (ImportTree i : node.getImports()) {
            if (!i.getQualifiedIdentifier().toString().equals("java.util.NoSuchElementException") || i.isStatic()) {
                fault(4, "an import", i);
            }
        }
        return super.visitCompilationUnit(node, v);
    }

    @Override
    public Void visitClass(ClassTree node, Void v) {
        classes++;
        Set<Modifier> is = node.getModifiers().getFlags();
        boolean inside = getCurrentPath().getParentPath().getLeaf() instanceof ClassTree;
        boolean top = getCurrentPath().getParentPath().getLeaf() instanceof CompilationUnitTree;
        if (!top && !(inside && is.contains(Modifier.STATIC) && !is.contains(Modifier.PUBLIC) && !is.contains(Modifier.PROTECTED))) {
            fault(2, "a class inside that is not static, or not private", node);
        }
        if (node.getKind() != Tree.Kind.CLASS || node.getExtendsClause() != null || !node.getImplementsClause().isEmpty()) {
            fault(2, "no more than classes of their own are needed", node);
        }
        return super.visitClass(node, v);
    }

    @Override
    public Void visitBlock(BlockTree node, Void v) {
        if (getCurrentPath().getParentPath().getLeaf() instanceof ClassTree) {
            fault(5, "an initialiser block", node);
        }
        return super.visitBlock(node, v);
    }

    @Override
    public Void visitVariable(VariableTree node, Void v) {
        Element e = element();
        if (!isNumbers(e.asType()) && !isOwnClass(e.asType()) && !e.asType().toString().equals("java.lang.String")) {
            fault(3, "the type " + e.asType(), node);
        }
        if (e.getKind() == ElementKind.FIELD) {
            Set<Modifier> is = e.getModifiers();
            if (!is.contains(Modifier.STATIC)) {
                fields.merge(e.getEnclosingElement(), 1, Integer::sum);
            } else if (!is.contains(Modifier.FINAL) || isOwnClass(e.asType()) || !isConstant(node.getInitializer())) {
                fault(5, "a static field that is no constant", node);
            }
        }
        return super.visitVariable(node, v);
    }

    private static boolean isConstant(ExpressionTree written) {
        if (written instanceof NewArrayTree array) {
            return array.getInitializers() != null && array.getInitializers().stream().allMatch(Language::isConstant);
        }
        return written instanceof LiteralTree || written instanceof UnaryTree u && u.getExpression() instanceof LiteralTree;
    }

    private static boolean isNumbers(TypeMirror type) {
        TypeMirror plain = type instanceof ArrayType a ? a.getComponentType() : type;
        return Set.of(TypeKind.INT, TypeKind.LONG, TypeKind.BYTE, TypeKind.BOOLEAN).contains(plain.getKind());
    }

    private boolean isOwnClass(TypeMirror type) {
        TypeMirror plain = type instanceof ArrayType a ? a.getComponentType() : type;
        return plain.getKind() == TypeKind.DECLARED && plain.toString().startsWith("TreePeers");
    }

    @Override
    public Void visitMethod(MethodTree node, Void v) {
        ExecutableElement outer = inMethod;
        inMethod = (ExecutableElement) element();
        calls.computeIfAbsent(inMethod, m -> new LinkedHashSet<>());
        if (node.getParameters().size() > MOST_PARAMETERS) {
            fault(11, "more than seven parameters", node);
        }
        if (lines(node) > LONGEST) {
            fault(11, "more than sixty lines", node);
        }
        if (Set.of("equals", "hashCode", "toString").contains(node.getName().toString())) {
            fault(6, "equals, hashCode, toString of an own class", node);
        }
        super.visitMethod(node, v);
        inMethod = outer;
        return null;
    }

    private long lines(Tree node) {
        SourcePositions at = trees.getSourcePositions();
        LineMap map = unit.getLineMap();
        return map.getLineNumber(at.getEndPosition(unit, node)) - map.getLineNumber(at.getStartPosition(unit, node)) + 1;
    }

    @Override
    public Void visitMethodInvocation(MethodInvocationTree node, Void v) {
        called(node);
        return super.visitMethodInvocation(node, v);
    }

    @Override
    public Void visitNewClass(NewClassTree node, Void v) {
        called(node);
        looped(node);
        if (node.getClassBody() != null) {
            fault(2, "an anonymous class", node);
        }
        return super.visitNewClass(node, v);
    }

    @Override
    public Void visitNewArray(NewArrayTree node, Void v) {
        looped(node);
        return super.visitNewArray(node, v);
    }

    /** An object in a loop is made by constructors alone, whose loops end at an array's length. */
    private void looped(Tree node) {
        if (loops > 0 && !isConstructor()) {
            fault(12, "something made in a loop", node);
        }
    }

    private boolean isConstructor() {
        return inMethod != null && inMethod.getKind() == ElementKind.CONSTRUCTOR;
    }

    private void called(Tree node) {
        ExecutableElement e = (ExecutableElement) element();
        TypeElement of = (TypeElement) e.getEnclosingElement();
        boolean made = e.getKind() == ElementKind.CONSTRUCTOR;
        if (!isOwn(of)) {
            if (!LIBRARY.contains(of.getSimpleName() + "." + e.getSimpleName())) {
                fault(4, of + "." + e.getSimpleName(), node);
            }
            return;
        }
        if (inMethod != null) {
            calls.get(inMethod).add(e);
        }
        if (!made && (inMethod == null || isConstructor())) {
            fault(12, "a constructor that calls a method", node);
        }
    }

    @Override
    public Void visitThrow(ThrowTree node, Void v) {
        String thrown = node.getExpression().toString();
        if (!thrown.matches("new NoSuchElementException\\(\"[^\"]*\"\\)")) {
            fault(6, "a throw of " + thrown, node);
        }
        if (isConstructor()) {
            fault(6, "a throw in a constructor", node);
        }
        return super.visitThrow(node, v);
    }

    @Override
    public Void visitForLoop(ForLoopTree node, Void v) {
        return ending(node, node.getCondition(), () -> super.visitForLoop(node, v));
    }

    @Override
    public Void visitWhileLoop(WhileLoopTree node, Void v) {
        return ending(node, node.getCondition(), () -> super.visitWhileLoop(node, v));
    }

    @Override
    public Void visitDoWhileLoop(DoWhileLoopTree node, Void v) {
        return ending(node, node.getCondition(), () -> super.visitDoWhileLoop(node, v));
    }

    /** A loop's condition holds something against a bound. */
    private Void ending(Tree node, ExpressionTree condition, Runnable inside) {
        if (condition == null || !condition.toString().matches(".* (<|>|<=|>=) .*")) {
            fault(9, "a loop without a bound", node);
        }
        loops++;
        inside.run();
        loops--;
        return null;
    }

    @Override
    public Void visitBinary(BinaryTree node, Void v) {
        if (trees.getTypeMirror(getCurrentPath()).toString().equals("java.lang.String")) {
            fault(10, "texts joined by +", node);
        }
        boolean comparing = node.getKind() == Tree.Kind.EQUAL_TO || node.getKind() == Tree.Kind.NOT_EQUAL_TO;
        TypeMirror left = trees.getTypeMirror(new TreePath(getCurrentPath(), node.getLeftOperand()));
        if (comparing && left.toString().equals("java.lang.String")) {
            fault(6, "two Strings compared by ==", node);
        }
        return super.visitBinary(node, v);
    }

    @Override
    public Void visitSwitch(SwitchTree node, Void v) {
        TypeMirror on = trees.getTypeMirror(new TreePath(getCurrentPath(), node.getExpression()));
        if (on.getKind() != TypeKind.INT) {
            fault(10, "a switch on " + on, node);
        }
        return super.visitSwitch(node, v);
    }

    @Override
    public Void visitLiteral(LiteralTree node, Void v) {
        if (node.getValue() instanceof String s && s.chars().anyMatch(c -> c < 1 || c > 127)) {
            fault(4, "a sign that is not 1 to 127", node);
        }
        return super.visitLiteral(node, v);
    }

    @Override
    public Void visitAssignment(AssignmentTree node, Void v) {
        if (node.getVariable() instanceof ArrayAccessTree a) {
            Element of = trees.getElement(new TreePath(new TreePath(getCurrentPath(), a), a.getExpression()));
            if (of != null && of.getModifiers().contains(Modifier.STATIC)) {
                fault(5, "a static array that changes", node);
            }
        }
        return super.visitAssignment(node, v);
    }

    private void endCounts() {
        if (classes > MOST_CLASSES) {
            faults.add("11: more than twelve classes");
        }
        fields.forEach((c, n) -> {
            if (n > MOST_FIELDS) {
                faults.add("11: more than twenty fields in " + c);
            }
        });
    }

    /** Who calls itself over others is private, and no chain of calls beside these is too deep. */
    private void callGraph() {
        Map<ExecutableElement, Set<ExecutableElement>> reached = new HashMap<>();
        calls.keySet().forEach(m -> reached.put(m, reach(m)));
        for (ExecutableElement m : calls.keySet()) {
            boolean again = reached.get(m).contains(m);
            boolean itself = calls.get(m).contains(m);
            if (again && !m.getModifiers().contains(Modifier.PRIVATE)) {
                faults.add("8: recursion of " + m + ", which is not private");
            }
            if (itself && !m.getModifiers().contains(Modifier.STATIC)) {
                faults.add("8: " + m + " calls itself, but is not static");
            }
            int deep = depth(m, reached);
            if (m.getModifiers().contains(Modifier.PUBLIC) && deep > DEEPEST) {
                faults.add("11: calls of " + m + " go " + deep + " deep");
            }
        }
    }

    private Set<ExecutableElement> reach(ExecutableElement from) {
        Set<ExecutableElement> seen = new LinkedHashSet<>();
        List<ExecutableElement> open = new ArrayList<>(List.of(from));
        while (!open.isEmpty()) {
            for (ExecutableElement e : calls.getOrDefault(open.remove(0), Set.of())) {
                if (seen.add(e)) {
                    open.add(e);
                }
            }
        }
        return seen;
    }

    /** How many calls are open below a method at most, those that are recursion not counted. */
    private int depth(ExecutableElement m, Map<ExecutableElement, Set<ExecutableElement>> reached) {
        return deepest(m, reached, new LinkedHashSet<>());
    }

    private int deepest(ExecutableElement m, Map<ExecutableElement, Set<ExecutableElement>> reached, Set<ExecutableElement> open) {
        int deepest = 0;
        open.add(m);
        for (ExecutableElement e : calls.getOrDefault(m, Set.of())) {
            if (!open.contains(e) && reached.containsKey(e)) {
                boolean again = reached.get(e).contains(e);
                deepest = Math.max(deepest, deepest(e, reached, open) + (again ? 0 : 1));
            }
        }
        open.remove(m);
        return deepest;
    }
}
