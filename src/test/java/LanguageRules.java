import com.sun.source.tree.ArrayAccessTree;
import com.sun.source.tree.AssignmentTree;
import com.sun.source.tree.BinaryTree;
import com.sun.source.tree.BlockTree;
import com.sun.source.tree.ClassTree;
import com.sun.source.tree.CompilationUnitTree;
import com.sun.source.tree.CompoundAssignmentTree;
import com.sun.source.tree.DoWhileLoopTree;
import com.sun.source.tree.ExpressionTree;
import com.sun.source.tree.ForLoopTree;
import com.sun.source.tree.ImportTree;
import com.sun.source.tree.LineMap;
import com.sun.source.tree.LiteralTree;
import com.sun.source.tree.MethodInvocationTree;
import com.sun.source.tree.MethodTree;
import com.sun.source.tree.NewArrayTree;
import com.sun.source.tree.NewClassTree;
import com.sun.source.tree.ParenthesizedTree;
import com.sun.source.tree.Tree;
import com.sun.source.tree.TypeCastTree;
import com.sun.source.tree.UnaryTree;
import com.sun.source.tree.VariableTree;
import com.sun.source.tree.WhileLoopTree;
import com.sun.source.util.JavacTask;
import com.sun.source.util.TreePath;
import com.sun.source.util.TreePathScanner;
import com.sun.source.util.Trees;
import java.io.IOException;
import java.net.URI;
import java.util.ArrayList;
import java.util.EnumSet;
import java.util.HashMap;
import java.util.LinkedHashSet;
import java.util.List;
import java.util.Map;
import java.util.Set;
import javax.lang.model.element.Element;
import javax.lang.model.element.ElementKind;
import javax.lang.model.element.Modifier;
import javax.lang.model.type.ArrayType;
import javax.lang.model.type.DeclaredType;
import javax.lang.model.type.TypeKind;
import javax.lang.model.type.TypeMirror;
import javax.tools.DiagnosticCollector;
import javax.tools.JavaCompiler;
import javax.tools.JavaFileObject;
import javax.tools.SimpleJavaFileObject;
import javax.tools.ToolProvider;

/**
 * Looks a source through for what LANGUAGE.md refuses, by the compiler's own trees, and tells each place with the rule's
 * number. It is stricter where the class needs less: no recursion, no casts among own classes, and nothing is made
 * outside of constructors. Rules that no tree tells (7, and the end of a loop, 9) are looked at only in part.
 */
final class LanguageRules extends TreePathScanner<Void, Void> {
    private static final int LINES_MOST = 60, NUMBERS_MOST = 7, DEPTH_MOST = 8, CLASSES_MOST = 12, FIELDS_MOST = 20;
    private static final Set<Tree.Kind> REFUSED = EnumSet.of(Tree.Kind.THROW, Tree.Kind.TRY, Tree.Kind.CATCH,
            Tree.Kind.SYNCHRONIZED, Tree.Kind.ASSERT);
    private static final Set<Tree.Kind> NO_FUNCTIONS = EnumSet.of(Tree.Kind.LAMBDA_EXPRESSION, Tree.Kind.MEMBER_REFERENCE);
    private static final Set<Tree.Kind> CHANGES = EnumSet.of(Tree.Kind.PREFIX_INCREMENT, Tree.Kind.PREFIX_DECREMENT,
            Tree.Kind.POSTFIX_INCREMENT, Tree.Kind.POSTFIX_DECREMENT);
    private static final Set<String> LIBRARY_TYPES = Set.of("java.lang.String", "java.lang.StringBuilder", "java.lang.Integer",
            "java.util.ArrayList", "java.util.List");
    private static final Set<String> IMPORTS = Set.of("java.util.ArrayList", "java.util.List", "java.util.Arrays",
            "java.util.Iterator");
    private static final Set<String> LIBRARY = Set.of("String.length", "String.charAt", "String.isEmpty", "String.equals",
            "String.indexOf", "String.substring", "String.toCharArray", "StringBuilder.append", "StringBuilder.charAt",
            "StringBuilder.setCharAt", "StringBuilder.setLength", "StringBuilder.deleteCharAt", "StringBuilder.reverse",
            "StringBuilder.length", "StringBuilder.toString", "ArrayList.add", "ArrayList.get", "ArrayList.set",
            "ArrayList.remove", "ArrayList.size", "ArrayList.isEmpty", "ArrayList.clear", "List.add", "List.get", "List.set",
            "List.remove", "List.size", "List.isEmpty", "List.clear", "Integer.compare", "Integer.max", "Integer.min",
            "Integer.bitCount", "Integer.numberOfTrailingZeros", "Integer.numberOfLeadingZeros", "Integer.highestOneBit",
            "Integer.lowestOneBit", "Long.compare", "Long.max", "Long.min", "Long.bitCount", "Math.max", "Math.min", "Math.abs",
            "System.arraycopy", "Arrays.copyOf", "Arrays.copyOfRange", "Arrays.fill");
    private static final Set<TypeKind> STATIC_ROWS = EnumSet.of(TypeKind.INT, TypeKind.LONG, TypeKind.CHAR, TypeKind.BYTE);
    private static final Set<TypeKind> STATIC_VALUES = EnumSet.of(TypeKind.INT, TypeKind.LONG, TypeKind.BOOLEAN, TypeKind.CHAR);

    private final Set<String> found = new LinkedHashSet<>();
    private final Map<Element, Set<Element>> calls = new HashMap<>();
    private final Map<Element, Integer> depths = new HashMap<>();
    private final Trees trees;
    private int classes;

    private LanguageRules(Trees trees) {
        this.trees = trees;
    }

    /** Each rule that is broken, as "rule 6: a throw at line 12". */
    static Set<String> brokenBy(String source) throws IOException {
        JavaCompiler compiler = ToolProvider.getSystemJavaCompiler();
        JavaFileObject file = new SimpleJavaFileObject(URI.create("string:///MixedRules.java"), JavaFileObject.Kind.SOURCE) {
            @Override
            public CharSequence getCharContent(boolean ignoreEncodingErrors) {
                return source;
            }
        };
        DiagnosticCollector<JavaFileObject> said = new DiagnosticCollector<>();
        JavacTask task = (JavacTask) compiler.getTask(null, null, said, List.of("-proc:none"), null, List.of(file));
        List<CompilationUnitTree> units = new ArrayList<>();
        task.parse().forEach(units::add);
        task.analyze();
        if (!said.getDiagnostics().isEmpty()) {
            throw new IllegalStateException("it does not compile: " + said.getDiagnostics());
        }
        LanguageRules rules = new LanguageRules(Trees.instance(task));
        for (CompilationUnitTree unit : units) {
            rules.scan(unit, null);
        }
        rules.lookAtDepths();
        return rules.found;
    }

    private void tell(int rule, String what, Tree at) {
        CompilationUnitTree unit = getCurrentPath().getCompilationUnit();
        found.add("rule " + rule + ": " + what + " at line " + lineOf(unit, trees.getSourcePositions().getStartPosition(unit, at)));
    }

    private static long lineOf(CompilationUnitTree unit, long position) {
        LineMap lines = unit.getLineMap();
        return position < 0 ? 0 : lines.getLineNumber(position);
    }

    @Override
    public Void scan(Tree tree, Void nothing) {
        if (tree != null && REFUSED.contains(tree.getKind())) {
            tell(6, "a " + tree.getKind(), tree);
        }
        if (tree != null && NO_FUNCTIONS.contains(tree.getKind())) {
            tell(2, "a " + tree.getKind(), tree);
        }
        return super.scan(tree, nothing);
    }

    @Override
    public Void visitImport(ImportTree tree, Void nothing) {
        if (tree.isStatic() || !IMPORTS.contains(tree.getQualifiedIdentifier().toString())) {
            tell(4, "import of " + tree.getQualifiedIdentifier(), tree);
        }
        return super.visitImport(tree, nothing);
    }

    @Override
    public Void visitClass(ClassTree tree, Void nothing) {
        classes++;
        Tree parent = getCurrentPath().getParentPath().getLeaf();
        Element self = trees.getElement(getCurrentPath());
        boolean isOutermost = parent.getKind() == Tree.Kind.COMPILATION_UNIT;
        boolean isMember = parent instanceof ClassTree;
        if (!isOutermost && !(isMember && self.getModifiers().contains(Modifier.STATIC))) {
            tell(2, "a class that is not static", tree);
        }
        if (tree.getKind() == Tree.Kind.CLASS && !self.getModifiers().contains(Modifier.FINAL)) {
            tell(12, "a class whose methods could be overridden", tree);
        }
        if (classes > CLASSES_MOST) {
            tell(11, "more classes than " + CLASSES_MOST, tree);
        }
        int fields = 0;
        for (Tree member : tree.getMembers()) {
            if (member instanceof VariableTree && !((VariableTree) member).getModifiers().getFlags().contains(Modifier.STATIC)) {
                fields++;
            }
            if (member instanceof BlockTree && ((BlockTree) member).isStatic()) {
                tell(5, "a static block", member);
            }
        }
        if (fields > FIELDS_MOST) {
            tell(11, "more fields than " + FIELDS_MOST, tree);
        }
        return super.visitClass(tree, nothing);
    }

    @Override
    public Void visitMethod(MethodTree tree, Void nothing) {
        CompilationUnitTree unit = getCurrentPath().getCompilationUnit();
        long first = lineOf(unit, trees.getSourcePositions().getStartPosition(unit, tree));
        long last = lineOf(unit, trees.getSourcePositions().getEndPosition(unit, tree));
        if (last - first + 1 > LINES_MOST) {
            tell(11, "a method of more lines than " + LINES_MOST, tree);
        }
        if (tree.getParameters().size() > NUMBERS_MOST) {
            tell(11, "a method of more parameters than " + NUMBERS_MOST, tree);
        }
        if (tree.getReturnType() != null) {
            lookAtType(typeOf(tree.getReturnType()), tree);
        }
        return super.visitMethod(tree, nothing);
    }

    @Override
    public Void visitVariable(VariableTree tree, Void nothing) {
        Element self = trees.getElement(getCurrentPath());
        lookAtType(self.asType(), tree);
        if (self.getKind() == ElementKind.FIELD && self.getModifiers().contains(Modifier.STATIC)) {
            lookAtStatic(tree, self);
        }
        return super.visitVariable(tree, nothing);
    }

    private void lookAtStatic(VariableTree tree, Element self) {
        TypeMirror type = self.asType();
        boolean isText = type.toString().equals("java.lang.String");
        boolean isRow = type.getKind() == TypeKind.ARRAY && STATIC_ROWS.contains(((ArrayType) type).getComponentType().getKind())
                && tree.getInitializer() instanceof NewArrayTree && ((NewArrayTree) tree.getInitializer()).getInitializers() != null;
        if (!self.getModifiers().contains(Modifier.FINAL)) {
            tell(5, "a static field that is not final", tree);
        }
        if (!isText && !isRow && !STATIC_VALUES.contains(type.getKind())) {
            tell(5, "a static field of another kind", tree);
        }
    }

    private void lookAtType(TypeMirror type, Tree at) {
        TypeMirror inner = type;
        int dimensions = 0;
        while (inner.getKind() == TypeKind.ARRAY && dimensions < 3) {
            inner = ((ArrayType) inner).getComponentType();
            dimensions++;
        }
        boolean isNumber = inner.getKind().isPrimitive() && inner.getKind() != TypeKind.BOOLEAN;
        boolean isFine = inner.getKind().isPrimitive() || inner.getKind() == TypeKind.VOID || isOwn(inner)
                || LIBRARY_TYPES.contains(nameOf(inner));
        if (!isFine || dimensions > 2 || dimensions == 2 && !isNumber) {
            tell(3, "the type " + type, at);
        }
    }

    private TypeMirror typeOf(Tree tree) {
        return trees.getTypeMirror(new TreePath(getCurrentPath(), tree));
    }

    private static String nameOf(TypeMirror type) {
        return type instanceof DeclaredType ? ((DeclaredType) type).asElement().toString() : type.toString();
    }

    private boolean isOwn(TypeMirror type) {
        return type instanceof DeclaredType && isOwn(((DeclaredType) type).asElement());
    }

    private static boolean isOwn(Element element) {
        Element outer = element;
        while (outer.getEnclosingElement() != null && outer.getEnclosingElement().getKind() != ElementKind.PACKAGE) {
            outer = outer.getEnclosingElement();
        }
        return outer.toString().equals("MixedRules");
    }

    private Element methodAround() {
        for (TreePath path = getCurrentPath(); path != null; path = path.getParentPath()) {
            if (path.getLeaf() instanceof MethodTree) {
                return trees.getElement(path);
            }
        }
        return null;
    }

    private void noteCall(Element called) {
        Element from = methodAround();
        if (from != null && isOwn(called)) {
            calls.computeIfAbsent(from, any -> new LinkedHashSet<>()).add(called);
        }
    }

    @Override
    public Void visitMethodInvocation(MethodInvocationTree tree, Void nothing) {
        Element called = trees.getElement(new TreePath(getCurrentPath(), tree.getMethodSelect()));
        String name = called.getEnclosingElement().getSimpleName() + "." + called.getSimpleName();
        // A constructor begins with a call of super() that nobody wrote.
        if (!isOwn(called) && called.getKind() != ElementKind.CONSTRUCTOR && !LIBRARY.contains(name)
                && !called.getSimpleName().contentEquals("clone")) {
            tell(4, name, tree);
        }
        noteCall(called);
        return super.visitMethodInvocation(tree, nothing);
    }

    @Override
    public Void visitNewClass(NewClassTree tree, Void nothing) {
        Element made = trees.getElement(getCurrentPath());
        if (!isOwn(made) && !LIBRARY_TYPES.contains(made.getEnclosingElement().toString())) {
            tell(4, "new " + made.getEnclosingElement(), tree);
        }
        lookAtMaking(tree);
        noteCall(made);
        return super.visitNewClass(tree, nothing);
    }

    @Override
    public Void visitNewArray(NewArrayTree tree, Void nothing) {
        if (tree.getType() != null) {
            lookAtMaking(tree);
        }
        return super.visitNewArray(tree, nothing);
    }

    private void lookAtMaking(Tree tree) {
        Element around = methodAround();
        if (around != null && around.getKind() != ElementKind.CONSTRUCTOR) {
            tell(12, "something is made outside of a constructor", tree);
        }
    }

    @Override
    public Void visitTypeCast(TypeCastTree tree, Void nothing) {
        if (!typeOf(tree.getType()).getKind().isPrimitive()) {
            tell(6, "a cast of an object", tree);
        }
        return super.visitTypeCast(tree, nothing);
    }

    @Override
    public Void visitBinary(BinaryTree tree, Void nothing) {
        String left = typeOf(tree.getLeftOperand()).toString();
        String right = typeOf(tree.getRightOperand()).toString();
        Tree.Kind kind = tree.getKind();
        boolean isEquality = kind == Tree.Kind.EQUAL_TO || kind == Tree.Kind.NOT_EQUAL_TO;
        if (isEquality && left.equals(right) && (left.equals("java.lang.String") || left.equals("java.lang.Integer"))) {
            tell(6, kind + " between two of " + left, tree);
        }
        if (kind == Tree.Kind.PLUS && (left.equals("java.lang.String") || right.equals("java.lang.String"))) {
            tell(10, "texts joined by +", tree);
        }
        if (kind == Tree.Kind.DIVIDE || kind == Tree.Kind.REMAINDER) {
            lookAtDivisor(tree.getRightOperand(), tree);
        }
        return super.visitBinary(tree, nothing);
    }

    private void lookAtDivisor(ExpressionTree divisor, Tree at) {
        boolean isSure = divisor instanceof LiteralTree && !((LiteralTree) divisor).getValue().toString().equals("0");
        if (!isSure) {
            tell(7, "a divisor that could be 0", at);
        }
    }

    @Override
    public Void visitCompoundAssignment(CompoundAssignmentTree tree, Void nothing) {
        if (tree.getKind() == Tree.Kind.DIVIDE_ASSIGNMENT || tree.getKind() == Tree.Kind.REMAINDER_ASSIGNMENT) {
            lookAtDivisor(tree.getExpression(), tree);
        }
        if (typeOf(tree.getVariable()).toString().equals("java.lang.String")) {
            tell(10, "texts joined by +=", tree);
        }
        lookAtChange(tree.getVariable());
        return super.visitCompoundAssignment(tree, nothing);
    }

    @Override
    public Void visitAssignment(AssignmentTree tree, Void nothing) {
        lookAtChange(tree.getVariable());
        return super.visitAssignment(tree, nothing);
    }

    @Override
    public Void visitUnary(UnaryTree tree, Void nothing) {
        if (CHANGES.contains(tree.getKind())) {
            lookAtChange(tree.getExpression());
        }
        return super.visitUnary(tree, nothing);
    }

    private void lookAtChange(ExpressionTree variable) {
        if (variable instanceof ArrayAccessTree) {
            ExpressionTree row = ((ArrayAccessTree) variable).getExpression();
            Element field = trees.getElement(new TreePath(getCurrentPath(), row));
            if (field != null && field.getModifiers().contains(Modifier.STATIC)) {
                tell(5, "a static row is changed", variable);
            }
        }
    }

    @Override
    public Void visitForLoop(ForLoopTree tree, Void nothing) {
        if (tree.getCondition() == null) {
            tell(9, "a loop without an end", tree);
        }
        return super.visitForLoop(tree, nothing);
    }

    @Override
    public Void visitWhileLoop(WhileLoopTree tree, Void nothing) {
        lookAtEnd(tree.getCondition(), tree);
        return super.visitWhileLoop(tree, nothing);
    }

    @Override
    public Void visitDoWhileLoop(DoWhileLoopTree tree, Void nothing) {
        lookAtEnd(tree.getCondition(), tree);
        return super.visitDoWhileLoop(tree, nothing);
    }

    private void lookAtEnd(ExpressionTree condition, Tree loop) {
        ExpressionTree bare = condition;
        while (bare instanceof ParenthesizedTree) {
            bare = ((ParenthesizedTree) bare).getExpression();
        }
        if (bare instanceof LiteralTree) {
            tell(9, "a loop without an end", loop);
        }
    }

    private void lookAtDepths() {
        for (Element method : calls.keySet()) {
            int depth = depthOf(method, new ArrayList<>());
            if (depth > DEPTH_MOST) {
                found.add("rule 11: calls go " + depth + " deep from " + method);
            }
        }
    }

    /** How many calls stand open at once, this one among them. */
    private int depthOf(Element method, List<Element> open) {
        if (open.contains(method)) {
            found.add("rule 8: recursion of " + method);
            return 0;
        }
        if (depths.containsKey(method)) {
            return depths.get(method);
        }
        open.add(method);
        int deepest = 0;
        for (Element called : calls.getOrDefault(method, Set.of())) {
            deepest = Math.max(deepest, depthOf(called, open));
        }
        open.remove(method);
        depths.put(method, deepest + 1);
        return deepest + 1;
    }
}
