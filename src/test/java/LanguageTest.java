import com.sun.source.tree.*;
import com.sun.source.util.JavacTask;
import com.sun.source.util.SourcePositions;
import com.sun.source.util.TreePath;
import com.sun.source.util.TreePathScanner;
import com.sun.source.util.TreeScanner;
import com.sun.source.util.Trees;
import java.nio.file.Path;
import java.util.ArrayList;
import java.util.HashMap;
import java.util.HashSet;
import java.util.LinkedHashMap;
import java.util.LinkedHashSet;
import java.util.List;
import java.util.Map;
import java.util.Set;
import javax.lang.model.element.Element;
import javax.lang.model.element.ElementKind;
import javax.lang.model.element.ExecutableElement;
import javax.lang.model.element.Modifier;
import javax.lang.model.element.TypeElement;
import javax.lang.model.element.VariableElement;
import javax.lang.model.type.ArrayType;
import javax.lang.model.type.TypeKind;
import javax.lang.model.type.TypeMirror;
import javax.tools.JavaCompiler;
import javax.tools.StandardJavaFileManager;
import javax.tools.ToolProvider;

/**
 * The rules of ../shared/LANGUAGE.md on the trees that javac makes of the class. Where the class needs
 * less than a rule leaves (no double, no list, no text, no try, no recursion), less is asked for here.
 * Rule 7 is for the tests that make calls with any arguments in any state.
 */
public final class LanguageTest {
    private static final Path CLASS = Path.of("src/main/java/BoxIntegrals.java");
    private static final Set<TypeKind> NUMBERS = Set.of(TypeKind.INT, TypeKind.LONG, TypeKind.BOOLEAN);
    private static final Set<String> LIBRARY = Set.of("java.lang.Math", "java.lang.Integer", "java.lang.Long");
    /** By method: of the face these two alone throw, and what the document says. */
    private static final Map<String, String> THROWS = Map.of(
            "side", "ArrayIndexOutOfBoundsException", "share", "ArithmeticException");
    private static final int MOST_PARAMETERS = 7;
    private static final int MOST_LINES = 60;
    private static final int MOST_CALLS_OPEN = 8;
    private static final int MOST_CLASSES = 12;
    private static final int MOST_FIELDS = 20;

    private static Trees trees;
    private static CompilationUnitTree unit;
    private static int wrong = 0;

    public static void main(String[] args) throws Exception {
        JavaCompiler compiler = ToolProvider.getSystemJavaCompiler();
        if (compiler == null) {
            System.out.println("this java has no compiler, so that it cannot read the class");
            System.exit(1);
            return;
        }
        try (StandardJavaFileManager files = compiler.getStandardFileManager(null, null, null)) {
            JavacTask task = (JavacTask) compiler.getTask(null, files, null, List.of("-proc:none"), null,
                    files.getJavaFileObjects(CLASS));
            unit = task.parse().iterator().next();
            task.analyze();
            trees = Trees.instance(task);
            new Reader().scan(unit, null);
        }
        System.out.println(wrong == 0 ? "the class keeps to LANGUAGE.md" : wrong + " faults by LANGUAGE.md");
        if (wrong != 0) {
            System.exit(1);
        }
    }

    private static void check(boolean fine, int rule, Tree at, String what) {
        if (!fine) {
            wrong++;
            System.out.println("rule " + rule + ", line " + lineOf(at, true) + ": " + what);
        }
    }

    private static long lineOf(Tree tree, boolean first) {
        SourcePositions positions = trees.getSourcePositions();
        long at = first ? positions.getStartPosition(unit, tree) : positions.getEndPosition(unit, tree);
        return at < 0 ? 0 : unit.getLineMap().getLineNumber(at);
    }

    /** Looks at every tree of the file once, and at the calls and the classes in the end. */
    private static final class Reader extends TreePathScanner<Void, Void> {
        private final Map<Element, Set<Element>> callsOf = new LinkedHashMap<>();
        private final Map<Element, MethodTree> methods = new LinkedHashMap<>();
        private int classes = 0;

        private Element element() {
            return trees.getElement(getCurrentPath());
        }

        private TypeMirror type(Tree tree) {
            return trees.getTypeMirror(new TreePath(getCurrentPath(), tree));
        }

        /** The method that a tree stands in, null for a field's initialiser. */
        private MethodTree methodAround() {
            for (TreePath path = getCurrentPath(); path != null; path = path.getParentPath()) {
                if (path.getLeaf() instanceof MethodTree) {
                    return (MethodTree) path.getLeaf();
                }
            }
            return null;
        }

        private boolean isOwn(Element element) {
            Element top = element;
            while (top.getEnclosingElement() != null && top.getEnclosingElement().getKind() != ElementKind.PACKAGE) {
                top = top.getEnclosingElement();
            }
            return top.getSimpleName().contentEquals("BoxIntegrals");
        }

        @Override
        public Void visitCompilationUnit(CompilationUnitTree tree, Void none) {
            check(tree.getPackageName() == null, 1, tree, "a package line");
            check(tree.getTypeDecls().size() == 1, 1, tree, "more than one class beside another");
            check(tree.getImports().isEmpty(), 4, tree, "an import");
            super.visitCompilationUnit(tree, none);
            check(classes <= MOST_CLASSES, 11, tree, classes + " classes");
            namesAreTheirOwn();
            callsAreShallow();
            return null;
        }

        @Override
        public Void visitClass(ClassTree tree, Void none) {
            classes++;
            TypeElement is = (TypeElement) element();
            boolean top = getCurrentPath().getParentPath().getLeaf() instanceof CompilationUnitTree;
            Set<Modifier> has = is.getModifiers();
            if (top) {
                check(has.contains(Modifier.PUBLIC) && has.contains(Modifier.FINAL), 1, tree, "the class is not public and final");
            } else {
                check(!has.contains(Modifier.PUBLIC) && !has.contains(Modifier.PROTECTED) && has.contains(Modifier.STATIC),
                        1, tree, is + " is seen outside, or not static");
                check(getCurrentPath().getParentPath().getLeaf() instanceof ClassTree, 2, tree, is + " is local");
            }
            int fields = 0;
            for (Tree member : tree.getMembers()) {
                check(!(member instanceof BlockTree), 5, member, "a block of its own in a class");
                boolean isField = member instanceof VariableTree;
                fields += isField && !((VariableTree) member).getModifiers().getFlags().contains(Modifier.STATIC) ? 1 : 0;
            }
            check(fields <= MOST_FIELDS, 11, tree, is + " has " + fields + " fields");
            return super.visitClass(tree, none);
        }

        @Override
        public Void visitMethod(MethodTree tree, Void none) {
            methods.put(element(), tree);
            callsOf.put(element(), new LinkedHashSet<>());
            boolean top = element().getEnclosingElement().getEnclosingElement().getKind() == ElementKind.PACKAGE;
            Set<Modifier> has = element().getModifiers();
            check(!top || has.contains(Modifier.PUBLIC) || has.contains(Modifier.PRIVATE), 1, tree, tree.getName() + " is seen in the package");
            check(tree.getParameters().size() <= MOST_PARAMETERS, 11, tree, tree.getName() + " takes too many");
            long lines = lineOf(tree, false) - lineOf(tree, true) + 1;
            check(lines <= MOST_LINES, 11, tree, tree.getName() + " has " + lines + " lines");
            if (tree.getReturnType() != null) {
                checkType(tree.getReturnType());
            }
            return super.visitMethod(tree, none);
        }

        @Override
        public Void visitVariable(VariableTree tree, Void none) {
            VariableElement is = (VariableElement) element();
            checkType(tree.getType());
            if (is.getKind() == ElementKind.FIELD) {
                boolean top = is.getEnclosingElement().getEnclosingElement().getKind() == ElementKind.PACKAGE;
                Set<Modifier> has = is.getModifiers();
                check(!top || has.contains(Modifier.PUBLIC) || has.contains(Modifier.PRIVATE), 1, tree, is + " is seen in the package");
                check(!has.contains(Modifier.STATIC) || is.getConstantValue() != null, 5, tree, is + " is static and no constant");
            }
            return super.visitVariable(tree, none);
        }

        /** A number, an own class, or a row of numbers. */
        private void checkType(Tree tree) {
            TypeMirror is = type(tree);
            if (is.getKind() == TypeKind.ARRAY) {
                check(NUMBERS.contains(((ArrayType) is).getComponentType().getKind()), 3, tree, is + " is no row of numbers");
                return;
            }
            boolean own = is.getKind() == TypeKind.DECLARED && isOwn(trees.getElement(new TreePath(getCurrentPath(), tree)));
            check(NUMBERS.contains(is.getKind()) || is.getKind() == TypeKind.VOID || own, 3, tree, is + " as a type");
        }

        @Override
        public Void visitPrimitiveType(PrimitiveTypeTree tree, Void none) {
            check(tree.getPrimitiveTypeKind() == TypeKind.VOID || NUMBERS.contains(tree.getPrimitiveTypeKind()), 3, tree,
                    tree + " as a type");
            return super.visitPrimitiveType(tree, none);
        }

        @Override
        public Void visitLiteral(LiteralTree tree, Void none) {
            boolean inThrow = getCurrentPath().getParentPath().getLeaf() instanceof NewClassTree;
            Tree.Kind is = tree.getKind();
            check(is == Tree.Kind.INT_LITERAL || is == Tree.Kind.LONG_LITERAL || is == Tree.Kind.BOOLEAN_LITERAL
                    || inThrow && is == Tree.Kind.STRING_LITERAL, 3, tree, tree + " as a constant");
            return super.visitLiteral(tree, none);
        }

        @Override
        public Void visitMethodInvocation(MethodInvocationTree tree, Void none) {
            Element called = element();
            if (called.getKind() != ElementKind.METHOD) {
                return super.visitMethodInvocation(tree, none);
            }
            MethodTree from = methodAround();
            check(from != null, 12, tree, "a call where a field is made");
            if (from != null) {
                callsOf.get(trees.getElement(trees.getPath(unit, from))).add(called);
            }
            if (!isOwn(called)) {
                checkLibrary(tree, (ExecutableElement) called);
            }
            return super.visitMethodInvocation(tree, none);
        }

        private void checkLibrary(Tree tree, ExecutableElement called) {
            boolean overNumbers = NUMBERS.contains(called.getReturnType().getKind());
            for (VariableElement parameter : called.getParameters()) {
                overNumbers &= NUMBERS.contains(parameter.asType().getKind());
            }
            check(LIBRARY.contains(called.getEnclosingElement().toString()) && called.getModifiers().contains(Modifier.STATIC)
                    && overNumbers && !called.getSimpleName().toString().endsWith("Exact"), 4, tree, called + " of the library");
        }

        @Override
        public Void visitMemberSelect(MemberSelectTree tree, Void none) {
            Element is = element();
            check(is == null || is.getKind() != ElementKind.FIELD || isOwn(is) || tree.getIdentifier().contentEquals("length"),
                    4, tree, tree + " of the library");
            return super.visitMemberSelect(tree, none);
        }

        @Override
        public Void visitNewClass(NewClassTree tree, Void none) {
            boolean thrown = getCurrentPath().getParentPath().getLeaf() instanceof ThrowTree;
            check(thrown || isInConstructor(), 12, tree, "an object made by a call");
            check(tree.getClassBody() == null, 2, tree, "a class without a name");
            check(thrown || isOwn(element()), 4, tree, "an object of the library");
            return super.visitNewClass(tree, none);
        }

        @Override
        public Void visitNewArray(NewArrayTree tree, Void none) {
            check(isInConstructor(), 12, tree, "a row made by a call");
            for (ExpressionTree length : tree.getDimensions()) {
                check(isConstant(length), 7, tree, "a row of a length that is no constant");
            }
            return super.visitNewArray(tree, none);
        }

        private boolean isInConstructor() {
            MethodTree around = methodAround();
            return around == null || around.getName().contentEquals("<init>");
        }

        private boolean isConstant(ExpressionTree tree) {
            if (tree instanceof LiteralTree) {
                return true;
            }
            if (tree instanceof BinaryTree) {
                return isConstant(((BinaryTree) tree).getLeftOperand()) && isConstant(((BinaryTree) tree).getRightOperand());
            }
            Element is = trees.getElement(new TreePath(getCurrentPath(), tree));
            return is instanceof VariableElement && ((VariableElement) is).getConstantValue() != null;
        }

        @Override
        public Void visitThrow(ThrowTree tree, Void none) {
            MethodTree around = methodAround();
            String method = around == null ? "" : around.getName().toString();
            check(THROWS.containsKey(method), 6, tree, "a throw in " + method);
            boolean made = tree.getExpression() instanceof NewClassTree;
            check(made, 6, tree, "a throw of what was made elsewhere");
            if (made) {
                NewClassTree thrown = (NewClassTree) tree.getExpression();
                check(thrown.getIdentifier().toString().equals(THROWS.get(method)), 6, tree, method + " throws another exception");
                check(thrown.getArguments().isEmpty() || thrown.getArguments().size() == 1
                        && thrown.getArguments().get(0) instanceof LiteralTree, 6, tree, "a text that is not written out");
            }
            return super.visitThrow(tree, none);
        }

        @Override
        public Void visitTry(TryTree tree, Void none) {
            check(false, 6, tree, "a try");
            return super.visitTry(tree, none);
        }

        @Override
        public Void visitAssert(AssertTree tree, Void none) {
            check(false, 6, tree, "an assert");
            return super.visitAssert(tree, none);
        }

        @Override
        public Void visitSynchronized(SynchronizedTree tree, Void none) {
            check(false, 6, tree, "synchronized");
            return super.visitSynchronized(tree, none);
        }

        @Override
        public Void visitModifiers(ModifiersTree tree, Void none) {
            check(!tree.getFlags().contains(Modifier.SYNCHRONIZED) && !tree.getFlags().contains(Modifier.VOLATILE)
                    && !tree.getFlags().contains(Modifier.NATIVE), 6, tree, tree + " as a modifier");
            return super.visitModifiers(tree, none);
        }

        @Override
        public Void visitLambdaExpression(LambdaExpressionTree tree, Void none) {
            check(false, 2, tree, "a lambda");
            return super.visitLambdaExpression(tree, none);
        }

        @Override
        public Void visitMemberReference(MemberReferenceTree tree, Void none) {
            check(false, 2, tree, "a method reference");
            return super.visitMemberReference(tree, none);
        }

        @Override
        public Void visitTypeCast(TypeCastTree tree, Void none) {
            check(tree.getType() instanceof PrimitiveTypeTree, 6, tree, "a cast of an object");
            return super.visitTypeCast(tree, none);
        }

        @Override
        public Void visitForLoop(ForLoopTree tree, Void none) {
            checkEnd(tree, tree.getCondition(), tree.getUpdate());
            return super.visitForLoop(tree, none);
        }

        @Override
        public Void visitWhileLoop(WhileLoopTree tree, Void none) {
            checkEnd(tree, tree.getCondition(), List.of(tree.getStatement()));
            return super.visitWhileLoop(tree, none);
        }

        @Override
        public Void visitDoWhileLoop(DoWhileLoopTree tree, Void none) {
            checkEnd(tree, tree.getCondition(), List.of(tree.getStatement()));
            return super.visitDoWhileLoop(tree, none);
        }

        /** One of the conditions holds a counter, which each round steps, against a bound. */
        private void checkEnd(Tree loop, ExpressionTree condition, List<? extends Tree> rounds) {
            Set<String> counters = new HashSet<>();
            findCounters(condition, counters);
            Set<String> stepped = new HashSet<>();
            TreeScanner<Void, Void> steps = new TreeScanner<>() {
                @Override
                public Void visitUnary(UnaryTree tree, Void none) {
                    stepped.add(tree.getExpression().toString());
                    return super.visitUnary(tree, none);
                }

                @Override
                public Void visitCompoundAssignment(CompoundAssignmentTree tree, Void none) {
                    stepped.add(tree.getVariable().toString());
                    return super.visitCompoundAssignment(tree, none);
                }
            };
            steps.scan(rounds, null);
            counters.retainAll(stepped);
            check(!counters.isEmpty(), 9, loop, "a loop without a counter against a bound");
        }

        private void findCounters(ExpressionTree condition, Set<String> counters) {
            if (condition instanceof ParenthesizedTree) {
                findCounters(((ParenthesizedTree) condition).getExpression(), counters);
            }
            if (!(condition instanceof BinaryTree)) {
                return;
            }
            BinaryTree two = (BinaryTree) condition;
            Tree.Kind is = two.getKind();
            if (is == Tree.Kind.CONDITIONAL_AND) {
                findCounters(two.getLeftOperand(), counters);
                findCounters(two.getRightOperand(), counters);
            } else if (is == Tree.Kind.LESS_THAN || is == Tree.Kind.LESS_THAN_EQUAL
                    || is == Tree.Kind.GREATER_THAN || is == Tree.Kind.GREATER_THAN_EQUAL) {
                counters.add(two.getLeftOperand().toString());
            }
        }

        /** Neither a private method nor one of a class inside bears the name of one of the face. */
        private void namesAreTheirOwn() {
            Set<String> face = new HashSet<>();
            for (Element method : methods.keySet()) {
                if (method.getModifiers().contains(Modifier.PUBLIC)) {
                    check(method.getKind() == ElementKind.CONSTRUCTOR || face.add(method.getSimpleName().toString()),
                            1, methods.get(method), method + " is twice in the face");
                }
            }
            for (Element method : methods.keySet()) {
                check(method.getModifiers().contains(Modifier.PUBLIC) || !face.contains(method.getSimpleName().toString()),
                        1, methods.get(method), method + " bears the name of a public method");
            }
        }

        private void callsAreShallow() {
            Map<Element, Integer> depths = new HashMap<>();
            for (Element method : methods.keySet()) {
                int depth = depth(method, depths, new ArrayList<>());
                check(depth <= MOST_CALLS_OPEN, 11, methods.get(method), method + " has calls " + depth + " deep");
            }
        }

        /** How many calls stand open at once, this one among them; the library's are taken for two deep. */
        private int depth(Element method, Map<Element, Integer> depths, List<Element> open) {
            if (!callsOf.containsKey(method)) {
                return isOwn(method) ? 1 : 2;
            }
            if (open.contains(method)) {
                check(false, 8, methods.get(method), method + " calls itself");
                return 0;
            }
            Integer known = depths.get(method);
            if (known != null) {
                return known;
            }
            open.add(method);
            int deepest = 0;
            for (Element called : callsOf.get(method)) {
                deepest = Math.max(deepest, depth(called, depths, open));
            }
            open.remove(method);
            depths.put(method, deepest + 1);
            return deepest + 1;
        }
    }
}
