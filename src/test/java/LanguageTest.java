import com.sun.source.tree.*;
import com.sun.source.util.JavacTask;
import com.sun.source.util.TreePath;
import com.sun.source.util.TreePathScanner;
import com.sun.source.util.TreeScanner;
import com.sun.source.util.Trees;
import java.io.IOException;
import java.nio.file.Path;
import java.util.EnumSet;
import java.util.HashMap;
import java.util.HashSet;
import java.util.LinkedHashSet;
import java.util.List;
import java.util.Map;
import java.util.Set;
import javax.lang.model.element.Element;
import javax.lang.model.element.ElementKind;
import javax.lang.model.element.Modifier;
import javax.lang.model.element.VariableElement;
import javax.lang.model.type.ArrayType;
import javax.lang.model.type.TypeKind;
import javax.lang.model.type.TypeMirror;
import javax.tools.JavaCompiler;
import javax.tools.StandardJavaFileManager;
import javax.tools.ToolProvider;

/** The rules of LANGUAGE.md that can be read off the program's text. */
public final class LanguageTest {
    private static final Set<Tree.Kind> FORBIDDEN = EnumSet.of(
        Tree.Kind.IMPORT, Tree.Kind.PACKAGE, Tree.Kind.INTERFACE, Tree.Kind.ENUM, Tree.Kind.RECORD, Tree.Kind.ANNOTATION,
        Tree.Kind.STRING_LITERAL, Tree.Kind.FLOAT_LITERAL, Tree.Kind.DOUBLE_LITERAL, Tree.Kind.NULL_LITERAL,
        Tree.Kind.NEW_CLASS, Tree.Kind.PARAMETERIZED_TYPE, Tree.Kind.THROW, Tree.Kind.TRY, Tree.Kind.SYNCHRONIZED,
        Tree.Kind.ASSERT, Tree.Kind.INSTANCE_OF, Tree.Kind.LAMBDA_EXPRESSION, Tree.Kind.MEMBER_REFERENCE);
    private static final Set<Tree.Kind> LOOPS = EnumSet.of(
        Tree.Kind.FOR_LOOP, Tree.Kind.WHILE_LOOP, Tree.Kind.DO_WHILE_LOOP, Tree.Kind.ENHANCED_FOR_LOOP);
    private static final Set<Tree.Kind> CONDITIONS = EnumSet.of(
        Tree.Kind.IF, Tree.Kind.SWITCH, Tree.Kind.SWITCH_EXPRESSION, Tree.Kind.CONDITIONAL_EXPRESSION,
        Tree.Kind.CONDITIONAL_AND, Tree.Kind.CONDITIONAL_OR);
    private static final Set<Tree.Kind> COMPARISONS = EnumSet.of(
        Tree.Kind.LESS_THAN, Tree.Kind.LESS_THAN_EQUAL, Tree.Kind.GREATER_THAN, Tree.Kind.GREATER_THAN_EQUAL);
    private static final Set<TypeKind> TYPES = EnumSet.of(
        TypeKind.INT, TypeKind.LONG, TypeKind.SHORT, TypeKind.BYTE, TypeKind.CHAR, TypeKind.BOOLEAN);

    private final Due due = new Due();
    private final Map<Element, Set<Element>> calls = new HashMap<>();
    private CompilationUnitTree unit;
    private Trees trees;

    public static void main(String[] args) throws IOException {
        LanguageTest test = new LanguageTest();
        test.readProgram();
        test.due.end();
    }

    private void readProgram() throws IOException {
        JavaCompiler compiler = ToolProvider.getSystemJavaCompiler();
        try (StandardJavaFileManager files = compiler.getStandardFileManager(null, null, null)) {
            JavacTask task = (JavacTask) compiler.getTask(null, files, null, List.of("-proc:none"), null,
                files.getJavaFileObjects(Path.of("src/main/java/GrandClock.java")));
            unit = task.parse().iterator().next();
            task.analyze();
            trees = Trees.instance(task);
            due.that(unit.getTypeDecls().size() == 1, "rule 1: one class");
            ClassTree program = (ClassTree) unit.getTypeDecls().get(0);
            new Rules().scan(unit, null);
            checkMembers(program);
            for (Element method : calls.keySet()) {
                int depth = depth(method, new LinkedHashSet<>());
                due.that(depth <= 6, "rule 10: " + method + " goes " + depth + " calls deep");
            }
        }
    }

    private Element elementOf(Tree tree) {
        return trees.getElement(TreePath.getPath(unit, tree));
    }

    private TypeMirror typeOf(Tree tree) {
        return trees.getTypeMirror(TreePath.getPath(unit, tree));
    }

    private boolean isArray(Tree tree) {
        TypeMirror type = typeOf(tree);
        return type != null && type.getKind() == TypeKind.ARRAY;
    }

    private static boolean isAllowed(TypeMirror type) {
        TypeMirror plain = type.getKind() == TypeKind.ARRAY ? ((ArrayType) type).getComponentType() : type;
        return TYPES.contains(plain.getKind());
    }

    private void checkMembers(ClassTree program) {
        int fields = 0;
        Set<String> open = new HashSet<>();
        Set<String> hidden = new HashSet<>();
        for (Tree member : program.getMembers()) {
            if (member instanceof VariableTree field) {
                fields += checkField(field) ? 1 : 0;
            } else if (member instanceof MethodTree method) {
                boolean isPublic = method.getModifiers().getFlags().contains(Modifier.PUBLIC);
                boolean first = (isPublic ? open : hidden).add(method.getName().toString());
                due.that(first || !isPublic, "rule 1: one public method named " + method.getName());
                checkMethod(method);
            } else {
                due.that(false, "rules 1 and 5: a member that is neither field nor method: " + member.getKind());
            }
        }
        hidden.retainAll(open);
        due.that(hidden.isEmpty(), "rule 1: no private method with the name of a public one: " + hidden);
        due.that(fields <= 40, "rule 10: at most forty fields, not " + fields);
    }

    /** Answers whether the field counts beside the constants. */
    private boolean checkField(VariableTree field) {
        Set<Modifier> flags = field.getModifiers().getFlags();
        if (!flags.contains(Modifier.STATIC)) {
            due.that(flags.contains(Modifier.PRIVATE), "rule 1: a private field: " + field.getName());
            return true;
        }
        VariableElement element = (VariableElement) elementOf(field);
        TypeKind type = element.asType().getKind();
        boolean constant = element.getConstantValue() != null && (type == TypeKind.INT || type == TypeKind.LONG);
        due.that(constant, "rule 5: a static constant of int or long: " + field.getName());
        return false;
    }

    private void checkMethod(MethodTree method) {
        String name = method.getName().toString();
        Set<Modifier> flags = method.getModifiers().getFlags();
        due.that(flags.contains(Modifier.PUBLIC) || flags.contains(Modifier.PRIVATE), "rule 1: public or private: " + name);
        due.that(method.getParameters().size() <= 7, "rule 10: at most seven parameters: " + name);
        Tree answer = method.getReturnType();
        TypeKind type = answer == null ? TypeKind.VOID : typeOf(answer).getKind();
        due.that(type == TypeKind.VOID || TYPES.contains(type), "rules 2 and 4: no array or object is answered: " + name);
        due.that(lineOf(method, true) - lineOf(method, false) < 60, "rule 10: a short method: " + name);
    }

    private long lineOf(Tree tree, boolean end) {
        long start = trees.getSourcePositions().getStartPosition(unit, tree);
        return unit.getLineMap().getLineNumber(end ? trees.getSourcePositions().getEndPosition(unit, tree) : start);
    }

    /** How many calls lie one in another from a method on, itself counted. */
    private int depth(Element method, Set<Element> above) {
        if (!above.add(method)) {
            due.that(false, "rule 8: no recursion: " + above + " and " + method);
            return 0;
        }
        int deepest = 0;
        for (Element called : calls.getOrDefault(method, Set.of())) {
            deepest = Math.max(deepest, depth(called, above));
        }
        above.remove(method);
        return deepest + 1;
    }

    /** The variables that a tree names. */
    private static Set<String> names(Tree tree) {
        Set<String> names = new HashSet<>();
        new TreeScanner<Void, Void>() {
            @Override
            public Void visitIdentifier(IdentifierTree name, Void nothing) {
                return names.add(name.getName().toString()) ? null : nothing;
            }
        }.scan(tree, null);
        return names;
    }

    /** The variables that a tree compares with others as to their size. */
    private static Set<String> compared(Tree tree) {
        Set<String> names = new HashSet<>();
        new TreeScanner<Void, Void>() {
            @Override
            public Void visitBinary(BinaryTree binary, Void nothing) {
                if (COMPARISONS.contains(binary.getKind())) {
                    names.addAll(names(binary));
                }
                return super.visitBinary(binary, nothing);
            }
        }.scan(tree, null);
        return names;
    }

    /** The variables that a tree gives a new value. */
    private static Set<String> changed(Tree tree) {
        Set<String> names = new HashSet<>();
        new TreeScanner<Void, Void>() {
            @Override
            public Void visitAssignment(AssignmentTree assignment, Void nothing) {
                names.add(assignment.getVariable().toString());
                return super.visitAssignment(assignment, nothing);
            }

            @Override
            public Void visitCompoundAssignment(CompoundAssignmentTree assignment, Void nothing) {
                names.add(assignment.getVariable().toString());
                return super.visitCompoundAssignment(assignment, nothing);
            }

            @Override
            public Void visitUnary(UnaryTree unary, Void nothing) {
                String kind = unary.getKind().toString();
                if (kind.endsWith("INCREMENT") || kind.endsWith("DECREMENT")) {
                    names.add(unary.getExpression().toString());
                }
                return super.visitUnary(unary, nothing);
            }
        }.scan(tree, null);
        return names;
    }

    private final class Rules extends TreePathScanner<Void, Void> {
        private MethodTree method = null;
        private int arguments = 0;
        private long firstCall = Long.MAX_VALUE;

        @Override
        public Void scan(Tree tree, Void nothing) {
            if (tree != null) {
                due.that(!FORBIDDEN.contains(tree.getKind()), "rules 1 to 6: " + tree.getKind() + ": " + tree);
            }
            return super.scan(tree, nothing);
        }

        private boolean isInside(Set<Tree.Kind> kinds) {
            for (TreePath path = getCurrentPath(); path != null; path = path.getParentPath()) {
                if (kinds.contains(path.getLeaf().getKind())) {
                    return true;
                }
            }
            return false;
        }

        private boolean isInConstructor() {
            return method != null && method.getReturnType() == null;
        }

        @Override
        public Void visitMethod(MethodTree tree, Void nothing) {
            method = tree;
            calls.putIfAbsent(elementOf(tree), new HashSet<>());
            super.visitMethod(tree, nothing);
            method = null;
            return null;
        }

        @Override
        public Void visitVariable(VariableTree tree, Void nothing) {
            due.that(isAllowed(elementOf(tree).asType()), "rule 2: the type of " + tree);
            return super.visitVariable(tree, nothing);
        }

        @Override
        public Void visitTypeCast(TypeCastTree tree, Void nothing) {
            due.that(TYPES.contains(typeOf(tree.getType()).getKind()), "rule 6: no cast but to a number: " + tree);
            return super.visitTypeCast(tree, nothing);
        }

        @Override
        public Void visitMemberSelect(MemberSelectTree tree, Void nothing) {
            boolean length = tree.getIdentifier().contentEquals("length") && isArray(tree.getExpression());
            boolean own = String.valueOf(elementOf(tree).getEnclosingElement()).equals("GrandClock");
            due.that(length || own, "rule 3: a member of the program: " + tree);
            return super.visitMemberSelect(tree, nothing);
        }

        @Override
        public Void visitNewArray(NewArrayTree tree, Void nothing) {
            boolean plain = tree.getInitializers() == null && tree.getDimensions().size() == 1;
            due.that(plain && isConstant(tree.getDimensions().get(0)), "rule 4: a constant length: " + tree);
            due.that(method == null || isInConstructor(), "rule 4: made at the start: " + tree);
            due.that(!isInside(LOOPS) && !isInside(CONDITIONS), "rule 4: not in a loop or behind a condition: " + tree);
            due.that(!isInConstructor() || lineOf(tree, false) < firstCall, "rule 4: made before the first call: " + tree);
            return super.visitNewArray(tree, nothing);
        }

        private boolean isConstant(Tree length) {
            if (length instanceof LiteralTree literal) {
                return literal.getValue() instanceof Integer value && value >= 1;
            }
            return elementOf(length) instanceof VariableElement variable && variable.getConstantValue() != null;
        }

        @Override
        public Void visitAssignment(AssignmentTree tree, Void nothing) {
            if (isArray(tree.getVariable())) {
                boolean field = elementOf(tree.getVariable()).getKind() == ElementKind.FIELD;
                due.that(!field || isInConstructor(), "rule 4: no method assigns to an array field: " + tree);
                due.that(!isInside(LOOPS), "rule 4: no other array in a loop: " + tree);
            }
            return super.visitAssignment(tree, nothing);
        }

        @Override
        public Void visitBinary(BinaryTree tree, Void nothing) {
            boolean arrays = isArray(tree.getLeftOperand()) || isArray(tree.getRightOperand());
            due.that(!arrays, "rule 4: no array compared: " + tree);
            return super.visitBinary(tree, nothing);
        }

        @Override
        public Void visitMethodInvocation(MethodInvocationTree tree, Void nothing) {
            Element called = elementOf(tree);
            boolean superCall = tree.getMethodSelect().toString().equals("super");
            due.that(arguments == 0, "rule 10: no call among the arguments of another: " + tree);
            boolean own = called.getEnclosingElement().toString().equals("GrandClock");
            due.that(superCall || own, "rule 3: a method of the program: " + tree);
            if (!superCall && method != null) {
                calls.get(elementOf(method)).add(called);
            }
            if (!superCall && isInConstructor() && !called.getModifiers().contains(Modifier.STATIC)) {
                firstCall = Math.min(firstCall, lineOf(tree, false));
            }
            arguments++;
            scan(tree.getArguments(), nothing);
            arguments--;
            return null;
        }

        @Override
        public Void visitForLoop(ForLoopTree tree, Void nothing) {
            checkBound(tree, tree.getCondition());
            return super.visitForLoop(tree, nothing);
        }

        @Override
        public Void visitWhileLoop(WhileLoopTree tree, Void nothing) {
            checkBound(tree, tree.getCondition());
            return super.visitWhileLoop(tree, nothing);
        }

        @Override
        public Void visitDoWhileLoop(DoWhileLoopTree tree, Void nothing) {
            checkBound(tree, tree.getCondition());
            return super.visitDoWhileLoop(tree, nothing);
        }

        private void checkBound(Tree loop, Tree condition) {
            Set<String> counters = compared(condition);
            counters.retainAll(changed(loop));
            due.that(!counters.isEmpty(), "rule 8: a counter against a bound: " + loop);
        }
    }
}
