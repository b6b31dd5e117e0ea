import com.sun.source.tree.ArrayAccessTree;
import com.sun.source.tree.AssignmentTree;
import com.sun.source.tree.BinaryTree;
import com.sun.source.tree.BlockTree;
import com.sun.source.tree.ClassTree;
import com.sun.source.tree.CompilationUnitTree;
import com.sun.source.tree.CompoundAssignmentTree;
import com.sun.source.tree.DoWhileLoopTree;
import com.sun.source.tree.ExpressionTree;
import com.sun.source.tree.ForLoopTree;
import com.sun.source.tree.IdentifierTree;
import com.sun.source.tree.ImportTree;
import com.sun.source.tree.LiteralTree;
import com.sun.source.tree.MemberSelectTree;
import com.sun.source.tree.MethodTree;
import com.sun.source.tree.NewArrayTree;
import com.sun.source.tree.NewClassTree;
import com.sun.source.tree.Tree;
import com.sun.source.tree.UnaryTree;
import com.sun.source.tree.VariableTree;
import com.sun.source.tree.WhileLoopTree;
import com.sun.source.util.JavacTask;
import com.sun.source.util.TreePathScanner;
import com.sun.source.util.Trees;
import java.io.IOException;
import java.nio.file.Path;
import java.util.ArrayList;
import java.util.HashMap;
import java.util.HashSet;
import java.util.List;
import java.util.Map;
import java.util.Set;
import javax.lang.model.element.Element;
import javax.lang.model.element.ElementKind;
import javax.lang.model.element.ExecutableElement;
import javax.lang.model.element.Modifier;
import javax.lang.model.element.NestingKind;
import javax.lang.model.element.TypeElement;
import javax.lang.model.element.VariableElement;
import javax.lang.model.type.ArrayType;
import javax.lang.model.type.DeclaredType;
import javax.lang.model.type.TypeKind;
import javax.lang.model.type.TypeMirror;
import javax.tools.JavaCompiler;
import javax.tools.StandardJavaFileManager;
import javax.tools.ToolProvider;

/** Reads the class as the compiler does, and tells which of the numbered rules of LANGUAGE.md it breaks. */
final class SourceRules extends TreePathScanner<Void, Void> {
    private static final int MOST_DEEP = 8, MOST_PARAMETERS = 7, MOST_LINES = 60, MOST_FIELDS = 20, MOST_CLASSES = 12;

    /** Rule 4: the members of each class of the library. */
    private static final Map<String, Set<String>> LIBRARY = Map.of(
        "String", Set.of("length", "charAt", "isEmpty", "equals", "indexOf", "substring", "toCharArray"),
        "StringBuilder", Set.of("append", "charAt", "setCharAt", "setLength", "deleteCharAt", "reverse", "length", "toString"),
        "List", Set.of("add", "get", "set", "remove", "size", "isEmpty", "clear", "of"),
        "Integer", Set.of("compare", "max", "min", "bitCount"),
        "Long", Set.of("compare", "max", "min", "bitCount"),
        "Math", Set.of("max", "min", "abs", "floorDiv", "floorMod"),
        "System", Set.of("arraycopy"),
        "Arrays", Set.of("copyOf", "copyOfRange", "fill"));
    /** What inherits members, or hands them down, bears them as the other one does. */
    private static final Map<String, String> SAME = Map.of("AbstractStringBuilder", "StringBuilder", "ArrayList", "List",
        "Collection", "List", "CharSequence", "StringBuilder");
    private static final Set<String> MADE = Set.of("String", "StringBuilder", "ArrayList", "Object");
    private static final Set<String> TYPES = Set.of("String", "StringBuilder", "Integer", "ArrayList", "List");
    private static final Set<String> IMPORTS = Set.of("java.util.ArrayList", "java.util.List", "java.util.Arrays");
    private static final Set<TypeKind> NUMBERS = Set.of(TypeKind.INT, TypeKind.LONG, TypeKind.SHORT, TypeKind.BYTE,
        TypeKind.CHAR, TypeKind.BOOLEAN, TypeKind.DOUBLE, TypeKind.FLOAT);
    private static final Set<Tree.Kind> BANNED = Set.of(Tree.Kind.THROW, Tree.Kind.TRY, Tree.Kind.CATCH,
        Tree.Kind.SYNCHRONIZED, Tree.Kind.ASSERT, Tree.Kind.LAMBDA_EXPRESSION, Tree.Kind.MEMBER_REFERENCE);

    private final Trees trees;
    private final CompilationUnitTree unit;
    private final List<String> broken = new ArrayList<>();
    private final Map<Element, Set<Element>> calls = new HashMap<>();
    private Element method = null;
    private int classes = 0;

    private SourceRules(Trees trees, CompilationUnitTree unit) {
        this.trees = trees;
        this.unit = unit;
    }

    /** The rules that are broken, each with its number and its line. */
    static List<String> broken(Path source) throws IOException {
        JavaCompiler compiler = ToolProvider.getSystemJavaCompiler();
        try (StandardJavaFileManager files = compiler.getStandardFileManager(null, null, null)) {
            JavacTask task = (JavacTask) compiler.getTask(null, files, null, List.of("-proc:none"), null,
                files.getJavaFileObjects(source));
            CompilationUnitTree unit = task.parse().iterator().next();
            task.analyze();
            SourceRules rules = new SourceRules(Trees.instance(task), unit);
            rules.scan(unit, null);
            rules.depths();
            return rules.broken;
        }
    }

    private void check(boolean kept, int rule, Tree tree) {
        if (!kept) {
            broken.add("rule " + rule + ", line " + line(tree, false) + ": " + tree.toString().strip().split("\n")[0]);
        }
    }

    private long line(Tree tree, boolean end) {
        long place = end ? trees.getSourcePositions().getEndPosition(unit, tree)
            : trees.getSourcePositions().getStartPosition(unit, tree);
        return place < 0 ? 0 : unit.getLineMap().getLineNumber(place);
    }

    private Element element() {
        return trees.getElement(getCurrentPath());
    }

    private TypeMirror typeOf(Tree tree) {
        return trees.getTypeMirror(trees.getPath(unit, tree));
    }

    private static boolean isOwn(Element element) {
        Element outer = element;
        while (outer != null && outer.getKind() != ElementKind.PACKAGE) {
            if (outer.getSimpleName().contentEquals("ReceiptRolls")) {
                return true;
            }
            outer = outer.getEnclosingElement();
        }
        return false;
    }

    private static boolean isText(TypeMirror type) {
        return type != null && type.toString().equals("java.lang.String");
    }

    /** Rule 3: numbers, own classes, texts and lists, and arrays of these; of two dimensions only of numbers. */
    private boolean isAllowed(TypeMirror type, int dimensions) {
        if (type.getKind() == TypeKind.ARRAY) {
            TypeMirror of = ((ArrayType) type).getComponentType();
            return dimensions == 0 && isAllowed(of, 1) || dimensions == 1 && NUMBERS.contains(of.getKind());
        }
        if (type.getKind() == TypeKind.DECLARED) {
            Element of = ((DeclaredType) type).asElement();
            return isOwn(of) || TYPES.contains(of.getSimpleName().toString());
        }
        return NUMBERS.contains(type.getKind());
    }

    private boolean isReturned(TypeMirror type) {
        return type.getKind() == TypeKind.VOID || isAllowed(type, 0);
    }

    @Override
    public Void scan(Tree tree, Void none) {
        check(tree == null || !BANNED.contains(tree.getKind()), 6, tree);
        return super.scan(tree, none);
    }

    @Override
    public Void visitCompilationUnit(CompilationUnitTree tree, Void none) {
        check(tree.getPackage() == null && tree.getTypeDecls().size() == 1, 1, tree);
        for (ImportTree imported : tree.getImports()) {
            check(IMPORTS.contains(imported.getQualifiedIdentifier().toString()), 4, imported);
        }
        return super.visitCompilationUnit(tree, none);
    }

    @Override
    public Void visitImport(ImportTree tree, Void none) {
        return null;
    }

    @Override
    public Void visitClass(ClassTree tree, Void none) {
        TypeElement type = (TypeElement) element();
        boolean outer = type.getNestingKind() == NestingKind.TOP_LEVEL;
        boolean inside = type.getNestingKind() == NestingKind.MEMBER;
        classes++;
        check(outer || inside && type.getModifiers().contains(Modifier.STATIC), 2, tree);
        check(outer || !type.getModifiers().contains(Modifier.PUBLIC) && !type.getModifiers().contains(Modifier.PROTECTED), 1, tree);
        check(classes <= MOST_CLASSES, 11, tree);
        int fields = 0;
        for (Tree member : tree.getMembers()) {
            boolean field = member instanceof VariableTree v && !v.getModifiers().getFlags().contains(Modifier.STATIC);
            fields += field ? 1 : 0;
            check(!(member instanceof BlockTree), 5, member);
        }
        check(fields <= MOST_FIELDS, 11, tree);
        return super.visitClass(tree, none);
    }

    @Override
    public Void visitMethod(MethodTree tree, Void none) {
        Element before = method;
        method = element();
        calls.putIfAbsent(method, new HashSet<>());
        check(tree.getParameters().size() <= MOST_PARAMETERS, 11, tree);
        check(line(tree, true) - line(tree, false) < MOST_LINES, 11, tree);
        check(tree.getReturnType() == null || isReturned(typeOf(tree.getReturnType())), 3, tree);
        check(tree.getThrows().isEmpty(), 6, tree);
        for (String name : List.of("equals", "hashCode", "toString")) {
            check(!tree.getName().contentEquals(name), 6, tree);
        }
        super.visitMethod(tree, none);
        method = before;
        return null;
    }

    @Override
    public Void visitVariable(VariableTree tree, Void none) {
        VariableElement variable = (VariableElement) element();
        check(isAllowed(variable.asType(), 0), 3, tree);
        if (variable.getModifiers().contains(Modifier.STATIC)) {
            boolean array = variable.asType().getKind() == TypeKind.ARRAY;
            check(variable.getModifiers().contains(Modifier.FINAL), 5, tree);
            check(!array || tree.getInitializer() instanceof NewArrayTree made && made.getInitializers() != null, 5, tree);
        }
        return super.visitVariable(tree, none);
    }

    /** Rule 5: an element of an array that is static never changes. */
    private void checkChanged(ExpressionTree target) {
        if (target instanceof ArrayAccessTree access && access.getExpression() instanceof IdentifierTree name) {
            Element array = trees.getElement(trees.getPath(unit, name));
            check(array == null || !array.getModifiers().contains(Modifier.STATIC), 5, target);
        }
    }

    @Override
    public Void visitAssignment(AssignmentTree tree, Void none) {
        checkChanged(tree.getVariable());
        return super.visitAssignment(tree, none);
    }

    @Override
    public Void visitCompoundAssignment(CompoundAssignmentTree tree, Void none) {
        checkChanged(tree.getVariable());
        check(!isText(typeOf(tree.getVariable())), 10, tree);
        return super.visitCompoundAssignment(tree, none);
    }

    @Override
    public Void visitUnary(UnaryTree tree, Void none) {
        checkChanged(tree.getExpression());
        return super.visitUnary(tree, none);
    }

    @Override
    public Void visitBinary(BinaryTree tree, Void none) {
        boolean texts = isText(typeOf(tree.getLeftOperand())) || isText(typeOf(tree.getRightOperand()));
        boolean nulls = tree.getLeftOperand().getKind() == Tree.Kind.NULL_LITERAL
            || tree.getRightOperand().getKind() == Tree.Kind.NULL_LITERAL;
        check(!texts || nulls, tree.getKind() == Tree.Kind.PLUS ? 10 : 6, tree);
        return super.visitBinary(tree, none);
    }

    @Override
    public Void visitLiteral(LiteralTree tree, Void none) {
        if (tree.getValue() instanceof String text) {
            check(text.chars().allMatch(sign -> sign >= 1 && sign <= 127), 4, tree);
        }
        check(!(tree.getValue() instanceof Double || tree.getValue() instanceof Float), 3, tree);
        return super.visitLiteral(tree, none);
    }

    /** Rule 4: a name of a method or a field is an own one, or one that the library may be asked for. */
    private void checkName(Tree tree) {
        Element named = element();
        if (named instanceof ExecutableElement called) {
            String owner = called.getEnclosingElement().getSimpleName().toString();
            boolean made = called.getKind() == ElementKind.CONSTRUCTOR && MADE.contains(owner);
            Set<String> members = LIBRARY.getOrDefault(SAME.getOrDefault(owner, owner), Set.of());
            check(isOwn(called) || made || members.contains(called.getSimpleName().toString()), 4, tree);
            if (method != null && isOwn(called)) {
                calls.get(method).add(called);
            }
        } else if (named != null && named.getKind() == ElementKind.FIELD) {
            boolean length = tree instanceof MemberSelectTree of && named.getSimpleName().contentEquals("length")
                && typeOf(of.getExpression()).getKind() == TypeKind.ARRAY;
            check(isOwn(named) || length, 4, tree);
        }
    }

    @Override
    public Void visitIdentifier(IdentifierTree tree, Void none) {
        checkName(tree);
        return super.visitIdentifier(tree, none);
    }

    @Override
    public Void visitMemberSelect(MemberSelectTree tree, Void none) {
        checkName(tree);
        return super.visitMemberSelect(tree, none);
    }

    @Override
    public Void visitNewClass(NewClassTree tree, Void none) {
        check(tree.getClassBody() == null, 2, tree);
        checkName(tree);
        return super.visitNewClass(tree, none);
    }

    private void checkLoop(ExpressionTree condition, Tree loop) {
        check(condition != null && !condition.toString().matches("\\(*true\\)*"), 9, loop);
    }

    @Override
    public Void visitWhileLoop(WhileLoopTree tree, Void none) {
        checkLoop(tree.getCondition(), tree);
        return super.visitWhileLoop(tree, none);
    }

    @Override
    public Void visitDoWhileLoop(DoWhileLoopTree tree, Void none) {
        checkLoop(tree.getCondition(), tree);
        return super.visitDoWhileLoop(tree, none);
    }

    @Override
    public Void visitForLoop(ForLoopTree tree, Void none) {
        checkLoop(tree.getCondition(), tree);
        return super.visitForLoop(tree, none);
    }

    /** Rules 8 and 11: calls go at most eight deep; none of the methods comes to call itself, so none needs a guard. */
    private void depths() {
        for (Element from : calls.keySet()) {
            int depth = depth(from, new ArrayList<>());
            if (depth > MOST_DEEP) {
                broken.add("rules 8 and 11: calls from " + from + " go " + depth + " deep");
            }
        }
    }

    private int depth(Element from, List<Element> above) {
        if (above.contains(from)) {
            return 1000;
        }
        List<Element> path = new ArrayList<>(above);
        path.add(from);
        int deepest = 0;
        for (Element to : calls.getOrDefault(from, Set.of())) {
            deepest = Math.max(deepest, depth(to, path));
        }
        return deepest + 1;
    }
}
