import com.sun.source.tree.*;
import com.sun.source.util.JavacTask;
import com.sun.source.util.TreePathScanner;
import com.sun.source.util.Trees;
import java.io.IOException;
import java.nio.file.Path;
import java.util.EnumSet;
import java.util.HashMap;
import java.util.HashSet;
import java.util.LinkedHashSet;
import java.util.List;
import java.util.Map;
import java.util.Set;
import javax.lang.model.element.Modifier;
import javax.tools.JavaCompiler;
import javax.tools.StandardJavaFileManager;
import javax.tools.ToolProvider;

/** The rules of LANGUAGE.md that can be read off the program's text. */
public final class LanguageTest {
    private static final Set<Tree.Kind> FORBIDDEN = EnumSet.of(
        Tree.Kind.IMPORT, Tree.Kind.PACKAGE, Tree.Kind.INTERFACE, Tree.Kind.ENUM, Tree.Kind.RECORD, Tree.Kind.ANNOTATION,
        Tree.Kind.STRING_LITERAL, Tree.Kind.FLOAT_LITERAL, Tree.Kind.DOUBLE_LITERAL, Tree.Kind.NULL_LITERAL,
        Tree.Kind.NEW_CLASS, Tree.Kind.MEMBER_SELECT, Tree.Kind.ENHANCED_FOR_LOOP, Tree.Kind.PARAMETERIZED_TYPE,
        Tree.Kind.THROW, Tree.Kind.TRY, Tree.Kind.SYNCHRONIZED, Tree.Kind.ASSERT, Tree.Kind.INSTANCE_OF,
        Tree.Kind.LAMBDA_EXPRESSION, Tree.Kind.MEMBER_REFERENCE);
    private static final Set<String> TYPES = Set.of("int", "long", "short", "byte", "char", "boolean");

    private final Due due = new Due();
    private final Map<String, Set<String>> calls = new HashMap<>();
    private final Set<String> publicNames = new HashSet<>();
    private CompilationUnitTree unit;
    private Trees trees;

    public static void main(String[] args) throws IOException {
        LanguageTest test = new LanguageTest();
        test.readProgram();
        test.due.end();
    }

    private void readProgram() throws IOException {
        JavaCompiler compiler = ToolProvider.getSystemJavaCompiler();
        try (StandardJavaFileManager files = compiler.getStandardFileManager(null, null, null)) {
            JavacTask task = (JavacTask) compiler.getTask(null, files, null, List.of("-proc:none"), null,
                files.getJavaFileObjects(Path.of("src/main/java/GrandClock.java")));
            unit = task.parse().iterator().next();
            trees = Trees.instance(task);
            due.that(unit.getTypeDecls().size() == 1, "rule 1: one class");
            ClassTree program = (ClassTree) unit.getTypeDecls().get(0);
            checkMembers(program);
            new Rules().scan(unit, null);
            for (String name : publicNames) {
                int depth = depth(name, new LinkedHashSet<>());
                due.that(depth <= 6, "rule 10: " + name + " goes " + depth + " calls deep");
            }
        }
    }

    private void checkMembers(ClassTree program) {
        int fields = 0;
        for (Tree member : program.getMembers()) {
            if (member instanceof VariableTree field) {
                fields += checkField(field) ? 1 : 0;
            } else if (member instanceof MethodTree method) {
                checkMethod(method);
            } else {
                due.that(false, "rules 1 and 5: a member that is neither field nor method: " + member.getKind());
            }
        }
        due.that(fields <= 40, "rule 10: at most forty fields, not " + fields);
    }

    /** Answers whether the field counts beside the constants. */
    private boolean checkField(VariableTree field) {
        Set<Modifier> flags = field.getModifiers().getFlags();
        String type = field.getType().toString();
        if (!flags.contains(Modifier.STATIC)) {
            due.that(flags.contains(Modifier.PRIVATE), "rule 1: a private field: " + field.getName());
            return true;
        }
        boolean constant = flags.contains(Modifier.FINAL) && (type.equals("int") || type.equals("long"));
        due.that(constant && field.getInitializer() != null, "rule 5: a static constant: " + field.getName());
        return false;
    }

    private void checkMethod(MethodTree method) {
        String name = method.getName().toString();
        boolean first = calls.put(name, new HashSet<>()) == null;
        due.that(first, "rule 1: no second method named " + name);
        boolean open = method.getModifiers().getFlags().contains(Modifier.PUBLIC);
        due.that(open || method.getModifiers().getFlags().contains(Modifier.PRIVATE), "rule 1: public or private: " + name);
        if (open) {
            publicNames.add(name);
        }
        due.that(method.getParameters().size() <= 7, "rule 10: at most seven parameters: " + name);
        Tree answer = method.getReturnType();
        due.that(answer == null || answer.toString().equals("void") || TYPES.contains(answer.toString()),
            "rules 2 and 4: a number, a boolean or nothing is answered: " + name);
        due.that(lineOf(method, true) - lineOf(method, false) < 60, "rule 10: a short method: " + name);
    }

    private long lineOf(Tree tree, boolean end) {
        long start = trees.getSourcePositions().getStartPosition(unit, tree);
        return unit.getLineMap().getLineNumber(end ? trees.getSourcePositions().getEndPosition(unit, tree) : start);
    }

    /** How many calls lie one in another from a method on, itself counted. */
    private int depth(String name, Set<String> above) {
        if (!above.add(name)) {
            due.that(false, "rule 8: no recursion: " + above + " and " + name);
            return 0;
        }
        int deepest = 0;
        for (String called : calls.getOrDefault(name, Set.of())) {
            deepest = Math.max(deepest, depth(called, above));
        }
        above.remove(name);
        return deepest + 1;
    }

    private final class Rules extends TreePathScanner<Void, Void> {
        private String method = "";
        private int arguments = 0;

        @Override
        public Void scan(Tree tree, Void nothing) {
            if (tree != null) {
                due.that(!FORBIDDEN.contains(tree.getKind()), "rules 1 to 6: " + tree.getKind() + ": " + tree);
            }
            return super.scan(tree, nothing);
        }

        @Override
        public Void visitMethod(MethodTree tree, Void nothing) {
            method = tree.getName().toString();
            super.visitMethod(tree, nothing);
            method = "";
            return null;
        }

        @Override
        public Void visitVariable(VariableTree tree, Void nothing) {
            String type = tree.getType().toString();
            due.that(TYPES.contains(type.replaceFirst("\\[\\]$", "")), "rule 2: the type of " + tree);
            return super.visitVariable(tree, nothing);
        }

        @Override
        public Void visitNewArray(NewArrayTree tree, Void nothing) {
            boolean plain = tree.getInitializers() == null && tree.getDimensions().size() == 1;
            Tree.Kind length = plain ? tree.getDimensions().get(0).getKind() : null;
            due.that(method.isEmpty(), "rule 4: an array made in a field's initialiser: " + tree);
            due.that(length == Tree.Kind.INT_LITERAL || length == Tree.Kind.IDENTIFIER, "rule 4: the length of " + tree);
            return super.visitNewArray(tree, nothing);
        }

        @Override
        public Void visitMethodInvocation(MethodInvocationTree tree, Void nothing) {
            String name = tree.getMethodSelect().toString();
            due.that(arguments == 0, "rule 10: no call among the arguments of another: " + tree);
            due.that(calls.containsKey(name) || name.equals("super"), "rule 3: a method of the program: " + name);
            if (calls.containsKey(name)) {
                calls.get(method).add(name);
            }
            arguments++;
            scan(tree.getArguments(), nothing);
            arguments--;
            return null;
        }

        /** Narrower than the rule, which leaves other loops: a counter that goes up to a bound. */
        @Override
        public Void visitForLoop(ForLoopTree tree, Void nothing) {
            boolean counts = tree.getInitializer().size() == 1 && tree.getUpdate().size() == 1
                && tree.getInitializer().get(0) instanceof VariableTree;
            due.that(counts, "rule 8: one counter: " + tree);
            if (counts) {
                String counter = ((VariableTree) tree.getInitializer().get(0)).getName().toString();
                String condition = String.valueOf(tree.getCondition());
                due.that(condition.startsWith(counter + " < "), "rule 8: a bound: " + condition);
                due.that(tree.getUpdate().get(0).toString().startsWith(counter + "++"), "rule 8: a step: " + tree);
                String body = tree.getStatement().toString();
                due.that(!body.matches("(?s).*\\b" + counter + "( [-+*/]?= |\\+\\+|--).*"), "rule 8: a counter left alone: " + tree);
            }
            return super.visitForLoop(tree, nothing);
        }

        @Override
        public Void visitWhileLoop(WhileLoopTree tree, Void nothing) {
            due.that(false, "rule 8: a loop with a counter: " + tree);
            return super.visitWhileLoop(tree, nothing);
        }

        @Override
        public Void visitDoWhileLoop(DoWhileLoopTree tree, Void nothing) {
            due.that(false, "rule 8: a loop with a counter: " + tree);
            return super.visitDoWhileLoop(tree, nothing);
        }
    }
}
