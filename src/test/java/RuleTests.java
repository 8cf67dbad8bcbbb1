import com.sun.source.tree.AssignmentTree;
import com.sun.source.tree.BinaryTree;
import com.sun.source.tree.BlockTree;
import com.sun.source.tree.ClassTree;
import com.sun.source.tree.CompilationUnitTree;
import com.sun.source.tree.CompoundAssignmentTree;
import com.sun.source.tree.DoWhileLoopTree;
import com.sun.source.tree.ExpressionTree;
import com.sun.source.tree.ForLoopTree;
import com.sun.source.tree.IdentifierTree;
import com.sun.source.tree.MemberSelectTree;
import com.sun.source.tree.MethodInvocationTree;
import com.sun.source.tree.MethodTree;
import com.sun.source.tree.NewArrayTree;
import com.sun.source.tree.NewClassTree;
import com.sun.source.tree.ParenthesizedTree;
import com.sun.source.tree.StatementTree;
import com.sun.source.tree.Tree;
import com.sun.source.tree.UnaryTree;
import com.sun.source.tree.VariableTree;
import com.sun.source.tree.WhileLoopTree;
import com.sun.source.util.JavacTask;
import com.sun.source.util.SourcePositions;
import com.sun.source.util.TreeScanner;
import com.sun.source.util.Trees;
import java.io.File;
import java.io.IOException;
import java.util.EnumSet;
import java.util.List;
import java.util.Map;
import java.util.Set;
import java.util.TreeMap;
import java.util.TreeSet;
import javax.lang.model.element.Modifier;
import javax.tools.JavaCompiler;
import javax.tools.StandardJavaFileManager;
import javax.tools.ToolProvider;

/**
 * The rules of LANGUAGE.md that show in the form of the code. They are taken more strictly than they are written
 * where that makes them simple to see: a loop counts one variable up to a bound, and no name is followed by a dot.
 */
public final class RuleTests {
    private static final File SOURCE = new File("src/main/java/AreaMap.java");
    private static final int MOST_LINES = 60;
    private static final int MOST_PARAMETERS = 7;
    private static final int MOST_DEPTH = 6;
    private static final int MOST_FIELDS = 40;

    private static final Set<String> TYPES = Set.of("int", "long", "short", "byte", "char", "boolean");

    private static final Set<Tree.Kind> FORBIDDEN = EnumSet.of(Tree.Kind.THROW, Tree.Kind.TRY, Tree.Kind.CATCH,
        Tree.Kind.SYNCHRONIZED, Tree.Kind.ASSERT, Tree.Kind.INSTANCE_OF, Tree.Kind.LAMBDA_EXPRESSION,
        Tree.Kind.MEMBER_REFERENCE, Tree.Kind.STRING_LITERAL, Tree.Kind.NULL_LITERAL, Tree.Kind.FLOAT_LITERAL,
        Tree.Kind.DOUBLE_LITERAL, Tree.Kind.IMPORT, Tree.Kind.PACKAGE, Tree.Kind.ENHANCED_FOR_LOOP);

    private static int wrong = 0;

    private static void check(boolean holds, String fault) {
        if (!holds) {
            wrong++;
            System.out.println(fault);
        }
    }

    private static boolean isPlain(Tree type) {
        String name = type.toString();
        return TYPES.contains(name.endsWith("[]") ? name.substring(0, name.length() - 2) : name);
    }

    private static Set<String> namesIn(Tree tree) {
        Set<String> names = new TreeSet<>();
        new TreeScanner<Void, Void>() {
            @Override
            public Void visitIdentifier(IdentifierTree node, Void unused) {
                names.add(node.getName().toString());
                return null;
            }
        }.scan(tree, null);
        return names;
    }

    /** The variables that get another value in this code. */
    private static Set<String> changedIn(Tree tree) {
        Set<String> names = new TreeSet<>();
        new TreeScanner<Void, Void>() {
            @Override
            public Void visitAssignment(AssignmentTree node, Void unused) {
                names.add(node.getVariable().toString());
                return super.visitAssignment(node, null);
            }

            @Override
            public Void visitCompoundAssignment(CompoundAssignmentTree node, Void unused) {
                names.add(node.getVariable().toString());
                return super.visitCompoundAssignment(node, null);
            }

            @Override
            public Void visitUnary(UnaryTree node, Void unused) {
                if (node.toString().contains("++") || node.toString().contains("--")) {
                    names.add(node.getExpression().toString());
                }
                return super.visitUnary(node, null);
            }
        }.scan(tree, null);
        return names;
    }

    // ---- Rules 2, 3, 4 and 6, and of rule 10 that no call stands inside another's arguments

    private static final class Words extends TreeScanner<Void, Void> {
        @Override
        public Void scan(Tree tree, Void unused) {
            check(tree == null || !FORBIDDEN.contains(tree.getKind()), "the code has " + tree);
            return super.scan(tree, null);
        }

        @Override
        public Void visitVariable(VariableTree node, Void unused) {
            check(isPlain(node.getType()), "rule 2: " + node);
            return super.visitVariable(node, null);
        }

        @Override
        public Void visitMemberSelect(MemberSelectTree node, Void unused) {
            check(false, "rule 3: " + node + " may be of another class");
            return super.visitMemberSelect(node, null);
        }

        @Override
        public Void visitNewClass(NewClassTree node, Void unused) {
            check(false, "rule 4: an object is made: " + node);
            return super.visitNewClass(node, null);
        }

        @Override
        public Void visitMethod(MethodTree node, Void unused) {
            Tree type = node.getReturnType();
            check(type == null || type.toString().equals("void") || TYPES.contains(type.toString()),
                "rules 2 and 4: " + node.getName() + " answers " + type);
            new TreeScanner<Void, Void>() {
                @Override
                public Void visitNewArray(NewArrayTree made, Void none) {
                    check(false, "rule 4: " + node.getName() + " makes an array");
                    return null;
                }
            }.scan(node, null);
            return super.visitMethod(node, null);
        }

        @Override
        public Void visitMethodInvocation(MethodInvocationTree node, Void unused) {
            for (ExpressionTree argument : node.getArguments()) {
                check(callsIn(argument).isEmpty(), "rule 10: a call inside the arguments of " + node);
            }
            return super.visitMethodInvocation(node, null);
        }
    }

    // ---- Rule 8: loops

    private static final class Loops extends TreeScanner<Void, Void> {
        @Override
        public Void visitForLoop(ForLoopTree loop, Void unused) {
            boolean isSimple = loop.getInitializer().size() == 1 && loop.getUpdate().size() == 1
                && loop.getInitializer().get(0) instanceof VariableTree;
            check(isSimple, "rule 8: no single counter in " + loop);
            if (isSimple) {
                String counter = ((VariableTree) loop.getInitializer().get(0)).getName().toString();
                Set<String> changed = changedIn(loop.getStatement());
                check(loop.getUpdate().get(0).toString().equals(counter + "++;"), "rule 8: no count up in " + loop);
                check(!changed.contains(counter), "rule 8: the counter is changed inside " + loop);
                check(isBound(loop.getCondition(), counter, changed), "rule 8: no bound in " + loop);
            }
            return super.visitForLoop(loop, null);
        }

        @Override
        public Void visitWhileLoop(WhileLoopTree loop, Void unused) {
            Set<String> changed = changedIn(loop.getStatement());
            boolean ends = false;
            for (String counter : changed) {
                Set<String> others = new TreeSet<>(changed);
                others.remove(counter);
                ends |= countsUp(loop.getStatement(), counter) && isBound(loop.getCondition(), counter, others);
            }
            check(ends, "rule 8: no counter with a bound in " + loop);
            return super.visitWhileLoop(loop, null);
        }

        @Override
        public Void visitDoWhileLoop(DoWhileLoopTree loop, Void unused) {
            check(false, "rule 8: this test can't see the end of " + loop);
            return super.visitDoWhileLoop(loop, null);
        }

        /** Whether the loop goes on only while the counter is below something that the loop does not change. */
        private static boolean isBound(ExpressionTree condition, String counter, Set<String> changed) {
            ExpressionTree bare = condition;
            while (bare instanceof ParenthesizedTree) {
                bare = ((ParenthesizedTree) bare).getExpression();
            }
            if (!(bare instanceof BinaryTree)) {
                return false;
            }
            BinaryTree both = (BinaryTree) bare;
            if (both.getKind() == Tree.Kind.CONDITIONAL_AND) {
                return isBound(both.getLeftOperand(), counter, changed)
                    || isBound(both.getRightOperand(), counter, changed);
            }
            Set<String> bound = namesIn(both.getRightOperand());
            bound.retainAll(changed);
            return (both.getKind() == Tree.Kind.LESS_THAN || both.getKind() == Tree.Kind.LESS_THAN_EQUAL)
                && both.getLeftOperand().toString().equals(counter) && bound.isEmpty()
                && !namesIn(both.getRightOperand()).contains(counter) && callsIn(both.getRightOperand()).isEmpty();
        }

        /** The only change of the counter stands in the body itself, behind no condition. */
        private static boolean countsUp(StatementTree body, String counter) {
            int counts = 0;
            int changes = 0;
            List<? extends StatementTree> statements =
                body instanceof BlockTree ? ((BlockTree) body).getStatements() : List.of(body);
            for (StatementTree statement : statements) {
                counts += statement.toString().equals(counter + "++;") ? 1 : 0;
                changes += changedIn(statement).contains(counter) ? 1 : 0;
                check(!statement.toString().contains("continue"), "rule 8: a while loop with continue");
            }
            return counts == 1 && changes == 1;
        }
    }

    // ---- Rules 8 and 10: who calls whom

    private static Set<String> callsIn(Tree tree) {
        Set<String> names = new TreeSet<>();
        new TreeScanner<Void, Void>() {
            @Override
            public Void visitMethodInvocation(MethodInvocationTree node, Void unused) {
                names.add(node.getMethodSelect().toString());
                return super.visitMethodInvocation(node, null);
            }
        }.scan(tree, null);
        return names;
    }

    /** Takes the methods away that call none of those left, again and again: with recursion some stay. */
    private static void depth(Map<String, Set<String>> calls) {
        Map<String, Set<String>> left = new TreeMap<>(calls);
        int depth = 0;
        boolean tookSome = true;
        while (tookSome) {
            Set<String> callers = new TreeSet<>();
            left.forEach((name, called) -> {
                if (called.stream().anyMatch(left::containsKey)) {
                    callers.add(name);
                }
            });
            tookSome = left.keySet().retainAll(callers);
            depth += tookSome ? 1 : 0;
        }
        check(left.isEmpty(), "rule 8: recursion among " + left.keySet());
        check(depth <= MOST_DEPTH, "rule 10: calls go " + depth + " deep");
    }

    // ---- The class

    private static void members(ClassTree type, CompilationUnitTree unit, SourcePositions positions) {
        Map<String, Set<String>> calls = new TreeMap<>();
        int fields = 0;
        for (Tree member : type.getMembers()) {
            if (member instanceof MethodTree) {
                MethodTree method = (MethodTree) member;
                String name = method.getName().toString();
                check(!calls.containsKey(name), "two methods bear the name " + name);
                calls.put(name, callsIn(method));
                check(method.getParameters().size() <= MOST_PARAMETERS, "rule 10: the parameters of " + name);
                long first = unit.getLineMap().getLineNumber(positions.getStartPosition(unit, method));
                long last = unit.getLineMap().getLineNumber(positions.getEndPosition(unit, method));
                check(last - first < MOST_LINES, "rule 10: " + name + " is long");
            } else if (member instanceof VariableTree) {
                fields += field((VariableTree) member);
            } else {
                check(false, "rules 1 and 5: the class has " + member);
            }
        }
        for (Set<String> called : calls.values()) {
            check(calls.keySet().containsAll(called), "rule 3: calls outside of the class among " + called);
        }
        check(fields <= MOST_FIELDS, "rule 10: " + fields + " fields");
        depth(calls);
    }

    /** 1 for a field, 0 for a constant. */
    private static int field(VariableTree field) {
        Set<Modifier> modifiers = field.getModifiers().getFlags();
        String type = field.getType().toString();
        if (modifiers.contains(Modifier.STATIC)) {
            boolean isConstant = modifiers.contains(Modifier.FINAL) && Set.of("int", "long").contains(type)
                && field.getInitializer() != null && callsIn(field.getInitializer()).isEmpty();
            check(isConstant, "rule 5: " + field);
            return 0;
        }
        if (type.endsWith("[]")) {
            check(modifiers.contains(Modifier.FINAL), "rule 4: a method could assign to " + field);
            check(field.getInitializer() != null && field.getInitializer().toString().matches("new \\w+\\[\\w+]"),
                "rule 4: the length of " + field);
        }
        return 1;
    }

    public static void main(String[] args) throws IOException {
        JavaCompiler compiler = ToolProvider.getSystemJavaCompiler();
        try (StandardJavaFileManager files = compiler.getStandardFileManager(null, null, null)) {
            JavacTask task =
                (JavacTask) compiler.getTask(null, files, null, null, null, files.getJavaFileObjects(SOURCE));
            CompilationUnitTree unit = task.parse().iterator().next();
            check(unit.getTypeDecls().size() == 1, "rule 1: the file holds more than one class");
            new Words().scan(unit, null);
            new Loops().scan(unit, null);
            members((ClassTree) unit.getTypeDecls().get(0), unit, Trees.instance(task).getSourcePositions());
        }
        System.out.println(wrong == 0 ? "the code keeps to the rules" : wrong + " faults");
        if (wrong != 0) {
            System.exit(1);
        }
    }
}
