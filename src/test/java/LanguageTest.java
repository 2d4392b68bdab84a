import com.sun.source.tree.ArrayTypeTree;
import com.sun.source.tree.AssignmentTree;
import com.sun.source.tree.BinaryTree;
import com.sun.source.tree.BlockTree;
import com.sun.source.tree.ClassTree;
import com.sun.source.tree.CompilationUnitTree;
import com.sun.source.tree.CompoundAssignmentTree;
import com.sun.source.tree.ExpressionTree;
import com.sun.source.tree.ForLoopTree;
import com.sun.source.tree.IdentifierTree;
import com.sun.source.tree.LiteralTree;
import com.sun.source.tree.MethodInvocationTree;
import com.sun.source.tree.MethodTree;
import com.sun.source.tree.NewArrayTree;
import com.sun.source.tree.PrimitiveTypeTree;
import com.sun.source.tree.Tree;
import com.sun.source.tree.Tree.Kind;
import com.sun.source.tree.TypeCastTree;
import com.sun.source.tree.UnaryTree;
import com.sun.source.tree.VariableTree;
import com.sun.source.util.JavacTask;
import com.sun.source.util.SourcePositions;
import com.sun.source.util.TreePathScanner;
import com.sun.source.util.TreeScanner;
import com.sun.source.util.Trees;
import java.io.IOException;
import java.net.URI;
import java.nio.file.Files;
import java.nio.file.Path;
import java.util.ArrayList;
import java.util.HashMap;
import java.util.HashSet;
import java.util.List;
import java.util.Map;
import java.util.Set;
import java.util.TreeMap;
import java.util.TreeSet;
import javax.lang.model.element.Modifier;
import javax.lang.model.type.TypeKind;
import javax.tools.JavaCompiler;
import javax.tools.JavaFileObject;
import javax.tools.SimpleJavaFileObject;
import javax.tools.ToolProvider;

/**
 * The class keeps to LANGUAGE.md, as far as its syntax tree shows; FaceTest looks at its public
 * face. Where a rule leaves more than the class uses, this holds the class to what it uses, which
 * is easier to be sure of: arrays are made in fields' initialisers only, no local variable names an
 * array, and every loop is a for that counts up to a constant. That no call ever throws (rule 7) is
 * seen here for divisors only; the other tests call with wrong arguments.
 */
public final class LanguageTest {
    private static final Path PROGRAM = Path.of("src/main/java/ProcessEquiv.java");
    private static final int MOST_PARAMETERS = 7;
    private static final int MOST_LINES = 60;
    private static final int MOST_DEEP = 6;
    private static final int MOST_FIELDS = 40;

    /** What may not stand anywhere, and by which rule. */
    private static final Map<Kind, Integer> FORBIDDEN = forbidden();

    private static Map<Kind, Integer> forbidden() {
        Map<Kind, Integer> rules = new HashMap<>();
        for (Kind kind : List.of(Kind.INTERFACE, Kind.ENUM, Kind.RECORD, Kind.ANNOTATION_TYPE, Kind.PACKAGE)) {
            rules.put(kind, 1);
        }
        for (Kind kind : List.of(Kind.STRING_LITERAL, Kind.FLOAT_LITERAL, Kind.DOUBLE_LITERAL,
                Kind.PARAMETERIZED_TYPE, Kind.TYPE_PARAMETER)) {
            rules.put(kind, 2);
        }
        // A member is selected only from a class, an array or this: the class has no need of any.
        for (Kind kind : List.of(Kind.IMPORT, Kind.MEMBER_SELECT, Kind.ANNOTATION)) {
            rules.put(kind, 3);
        }
        for (Kind kind : List.of(Kind.NEW_CLASS, Kind.NULL_LITERAL)) {
            rules.put(kind, 4);
        }
        for (Kind kind : List.of(Kind.THROW, Kind.TRY, Kind.CATCH, Kind.SYNCHRONIZED, Kind.ASSERT,
                Kind.INSTANCE_OF, Kind.LAMBDA_EXPRESSION, Kind.MEMBER_REFERENCE)) {
            rules.put(kind, 6);
        }
        for (Kind kind : List.of(Kind.WHILE_LOOP, Kind.DO_WHILE_LOOP, Kind.ENHANCED_FOR_LOOP)) {
            rules.put(kind, 8);
        }
        return rules;
    }

    private static final class Source extends SimpleJavaFileObject {
        private final String text;

        Source(String text) {
            super(URI.create("string:///ProcessEquiv.java"), JavaFileObject.Kind.SOURCE);
            this.text = text;
        }

        @Override
        public CharSequence getCharContent(boolean ignoreEncodingErrors) {
            return text;
        }
    }

    /** Goes over one source and gathers what breaks a rule, as "rule n, line m: why". */
    private static final class Checker extends TreePathScanner<Void, Void> {
        final Set<String> faults = new TreeSet<>();
        private final CompilationUnitTree unit;
        private final SourcePositions positions;
        private final Set<String> constants = new HashSet<>();
        private final Set<String> arrays = new HashSet<>();
        private final Set<String> publicMethods = new HashSet<>();
        private final Map<String, Set<String>> calls = new TreeMap<>();
        private String method = "";
        private int callsAround = 0;

        Checker(CompilationUnitTree unit, SourcePositions positions) {
            this.unit = unit;
            this.positions = positions;
        }

        private long lineAt(long position) {
            return position < 0 ? 0 : unit.getLineMap().getLineNumber(position);
        }

        private void fault(int rule, Tree at, String why) {
            faults.add("rule " + rule + ", line " + lineAt(positions.getStartPosition(unit, at)) + ": " + why);
        }

        void check() {
            if (unit.getPackage() != null || unit.getTypeDecls().size() != 1
                    || !(unit.getTypeDecls().get(0) instanceof ClassTree)) {
                fault(1, unit, "not one class without a package line");
                return;
            }
            gather((ClassTree) unit.getTypeDecls().get(0));
            scan(unit, null);
            checkCalls();
        }

        private void gather(ClassTree top) {
            for (Tree member : top.getMembers()) {
                if (member instanceof MethodTree) {
                    MethodTree m = (MethodTree) member;
                    calls.put(m.getName().toString(), new TreeSet<>());
                    if (m.getModifiers().getFlags().contains(Modifier.PUBLIC)) {
                        publicMethods.add(m.getName().toString());
                    }
                    m.getParameters().forEach(this::gatherArray);
                } else if (member instanceof VariableTree) {
                    gatherArray((VariableTree) member);
                    if (isStatic((VariableTree) member)) {
                        constants.add(((VariableTree) member).getName().toString());
                    }
                }
            }
        }

        private void gatherArray(VariableTree v) {
            if (v.getType() instanceof ArrayTypeTree) {
                arrays.add(v.getName().toString());
            }
        }

        private static boolean isStatic(VariableTree v) {
            return v.getModifiers().getFlags().contains(Modifier.STATIC);
        }

        private Tree parent() {
            return getCurrentPath().getParentPath().getLeaf();
        }

        private boolean isArray(Tree tree) {
            return tree instanceof IdentifierTree && arrays.contains(((IdentifierTree) tree).getName().toString());
        }

        private boolean isConstant(Tree tree) {
            return tree instanceof LiteralTree
                || tree instanceof IdentifierTree && constants.contains(((IdentifierTree) tree).getName().toString());
        }

        @Override
        public Void scan(Tree tree, Void none) {
            if (tree != null && FORBIDDEN.containsKey(tree.getKind())) {
                fault(FORBIDDEN.get(tree.getKind()), tree, tree.getKind() + " " + tree);
            }
            return super.scan(tree, none);
        }

        @Override
        public Void visitClass(ClassTree c, Void none) {
            Set<Modifier> flags = c.getModifiers().getFlags();
            if (!(parent() instanceof CompilationUnitTree)) {
                fault(1, c, "a nested class");
            } else if (!flags.equals(Set.of(Modifier.PUBLIC, Modifier.FINAL))) {
                fault(1, c, "the class is not just public and final");
            }
            if (c.getExtendsClause() != null || !c.getImplementsClause().isEmpty()) {
                fault(2, c, "the class has another class or interface above it");
            }
            int fields = 0;
            for (Tree member : c.getMembers()) {
                if (member instanceof BlockTree) {
                    fault(5, member, "an initialiser block");
                }
                if (member instanceof VariableTree && !isStatic((VariableTree) member)) {
                    fields++;
                }
            }
            if (fields > MOST_FIELDS) {
                fault(10, c, fields + " fields");
            }
            return super.visitClass(c, none);
        }

        @Override
        public Void visitMethod(MethodTree m, Void none) {
            method = m.getName().toString();
            Set<Modifier> flags = m.getModifiers().getFlags();
            if (flags.contains(Modifier.PRIVATE) && publicMethods.contains(method)) {
                fault(1, m, "the private " + method + " bears the name of a public method");
            }
            if (!Set.of(Modifier.PUBLIC, Modifier.PRIVATE, Modifier.STATIC).containsAll(flags)) {
                fault(6, m, method + " is " + flags);
            }
            if (m.getReturnType() instanceof ArrayTypeTree) {
                fault(4, m, method + " answers an array");
            }
            if (!m.getThrows().isEmpty()) {
                fault(6, m, method + " throws");
            }
            if (m.getParameters().size() > MOST_PARAMETERS) {
                fault(10, m, method + " takes " + m.getParameters().size() + " parameters");
            }
            long first = lineAt(positions.getStartPosition(unit, m));
            long last = lineAt(positions.getEndPosition(unit, m));
            if (last - first + 1 > MOST_LINES) {
                fault(10, m, method + " has " + (last - first + 1) + " lines");
            }
            super.visitMethod(m, none);
            method = "";
            return null;
        }

        @Override
        public Void visitVariable(VariableTree v, Void none) {
            boolean field = parent() instanceof ClassTree;
            boolean array = v.getType() instanceof ArrayTypeTree;
            if (!array && !(v.getType() instanceof PrimitiveTypeTree)) {
                fault(2, v, "the type of " + v.getName());
            }
            if (array && !field && !(parent() instanceof MethodTree)) {
                fault(4, v, "the local variable " + v.getName() + " names an array");
            }
            if (array && v.getInitializer() != null && !(v.getInitializer() instanceof NewArrayTree)) {
                fault(4, v, v.getName() + " is not made by new");
            }
            if (array && field && !v.getModifiers().getFlags().contains(Modifier.FINAL)) {
                fault(4, v, "the array field " + v.getName() + " is not final");
            }
            if (field && isStatic(v)) {
                checkConstant(v);
            }
            return super.visitVariable(v, none);
        }

        private void checkConstant(VariableTree v) {
            boolean whole = v.getType().toString().equals("int") || v.getType().toString().equals("long");
            Tree value = v.getInitializer();
            boolean negative = value != null && value.getKind() == Kind.UNARY_MINUS;
            Tree plain = negative ? ((UnaryTree) value).getExpression() : value;
            if (!whole || !v.getModifiers().getFlags().contains(Modifier.FINAL) || !isConstant(plain)) {
                fault(5, v, "the static field " + v.getName() + " is no constant of int or long");
            }
        }

        @Override
        public Void visitPrimitiveType(PrimitiveTypeTree p, Void none) {
            TypeKind kind = p.getPrimitiveTypeKind();
            if (kind == TypeKind.FLOAT || kind == TypeKind.DOUBLE) {
                fault(2, p, "the type " + p);
            }
            return super.visitPrimitiveType(p, none);
        }

        @Override
        public Void visitArrayType(ArrayTypeTree a, Void none) {
            if (!(a.getType() instanceof PrimitiveTypeTree)) {
                fault(2, a, "the type " + a);
            }
            return super.visitArrayType(a, none);
        }

        @Override
        public Void visitNewArray(NewArrayTree made, Void none) {
            boolean field = parent() instanceof VariableTree
                && getCurrentPath().getParentPath().getParentPath().getLeaf() instanceof ClassTree;
            boolean sized = made.getInitializers() == null && made.getDimensions().size() == 1
                && isConstant(made.getDimensions().get(0)) && !made.getDimensions().get(0).toString().equals("0");
            if (!field || !sized) {
                fault(4, made, "the array " + made);
            }
            return super.visitNewArray(made, none);
        }

        @Override
        public Void visitTypeCast(TypeCastTree cast, Void none) {
            if (!(cast.getType() instanceof PrimitiveTypeTree)) {
                fault(6, cast, "the cast " + cast);
            }
            return super.visitTypeCast(cast, none);
        }

        @Override
        public Void visitAssignment(AssignmentTree a, Void none) {
            if (isArray(a.getVariable())) {
                fault(4, a, "the assignment " + a);
            }
            return super.visitAssignment(a, none);
        }

        @Override
        public Void visitCompoundAssignment(CompoundAssignmentTree a, Void none) {
            checkDivisor(a, a.getKind(), a.getExpression());
            return super.visitCompoundAssignment(a, none);
        }

        @Override
        public Void visitBinary(BinaryTree b, Void none) {
            if (isArray(b.getLeftOperand()) || isArray(b.getRightOperand())) {
                fault(4, b, "the comparison " + b);
            }
            checkDivisor(b, b.getKind(), b.getRightOperand());
            return super.visitBinary(b, none);
        }

        private void checkDivisor(Tree at, Kind kind, Tree divisor) {
            boolean divides = Set.of(Kind.DIVIDE, Kind.REMAINDER, Kind.DIVIDE_ASSIGNMENT,
                Kind.REMAINDER_ASSIGNMENT).contains(kind);
            if (divides && (!isConstant(divisor) || divisor.toString().equals("0"))) {
                fault(7, at, "the divisor of " + at);
            }
        }

        @Override
        public Void visitForLoop(ForLoopTree loop, Void none) {
            if (!countsUp(loop)) {
                fault(8, loop, "no counter that goes up to a bound");
            }
            return super.visitForLoop(loop, none);
        }

        private boolean countsUp(ForLoopTree loop) {
            if (loop.getInitializer().size() != 1 || loop.getUpdate().size() != 1
                    || !(loop.getInitializer().get(0) instanceof VariableTree)) {
                return false;
            }
            VariableTree counter = (VariableTree) loop.getInitializer().get(0);
            String name = counter.getName().toString();
            return counter.getType().toString().equals("int")
                && loop.getUpdate().get(0).toString().equals(name + "++;")
                && isBounded(loop.getCondition(), name)
                && !changes(loop.getStatement(), name)
                && !changes(loop.getCondition(), name);
        }

        /** One part of a condition that is joined by && is enough to end the loop. */
        private boolean isBounded(ExpressionTree condition, String name) {
            if (!(condition instanceof BinaryTree)) {
                return false;
            }
            ExpressionTree left = ((BinaryTree) condition).getLeftOperand();
            ExpressionTree right = ((BinaryTree) condition).getRightOperand();
            switch (condition.getKind()) {
                case CONDITIONAL_AND:
                    return isBounded(left, name) || isBounded(right, name);
                case LESS_THAN:
                case LESS_THAN_EQUAL:
                    return left.toString().equals(name) && isBound(right);
                default:
                    return false;
            }
        }

        /** A bound that does not change in the loop: a constant, or the counter of a loop around. */
        private boolean isBound(ExpressionTree bound) {
            if (isConstant(bound)) {
                return true;
            }
            for (Tree around : getCurrentPath().getParentPath()) {
                if (around instanceof ForLoopTree && countsUp((ForLoopTree) around)
                        && ((VariableTree) ((ForLoopTree) around).getInitializer().get(0)).getName()
                            .contentEquals(bound.toString())) {
                    return true;
                }
            }
            return false;
        }

        private static boolean changes(Tree tree, String name) {
            ChangeFinder finder = new ChangeFinder(name);
            finder.scan(tree, null);
            return finder.found;
        }

        @Override
        public Void visitMethodInvocation(MethodInvocationTree call, Void none) {
            String name = call.getMethodSelect().toString();
            if (!calls.containsKey(name)) {
                fault(3, call, "the call of " + name);
            }
            if (callsAround > 0) {
                fault(10, call, "the call of " + name + " inside the arguments of another");
            }
            calls.computeIfAbsent(method, m -> new TreeSet<>()).add(name);
            callsAround++;
            super.visitMethodInvocation(call, none);
            callsAround--;
            return null;
        }

        private void checkCalls() {
            for (String name : calls.keySet()) {
                int depth = depth(name, new ArrayList<>());
                if (depth > MOST_DEEP) {
                    fault(10, unit, "calls from " + name + " go " + depth + " deep");
                }
            }
        }

        /** How many methods stand on top of one another, this one too. */
        private int depth(String name, List<String> above) {
            if (above.contains(name)) {
                fault(8, unit, "recursion through " + name);
                return 0;
            }
            above.add(name);
            int deepest = 0;
            for (String called : calls.getOrDefault(name, Set.of())) {
                deepest = Math.max(deepest, depth(called, above));
            }
            above.remove(name);
            return deepest + 1;
        }
    }

    /** Looks for a change of one variable. */
    private static final class ChangeFinder extends TreeScanner<Void, Void> {
        boolean found = false;
        private final String name;

        ChangeFinder(String name) {
            this.name = name;
        }

        private void look(Tree variable) {
            found |= variable.toString().equals(name);
        }

        @Override
        public Void visitAssignment(AssignmentTree a, Void none) {
            look(a.getVariable());
            return super.visitAssignment(a, none);
        }

        @Override
        public Void visitCompoundAssignment(CompoundAssignmentTree a, Void none) {
            look(a.getVariable());
            return super.visitCompoundAssignment(a, none);
        }

        @Override
        public Void visitUnary(UnaryTree u, Void none) {
            if (u.getKind().name().endsWith("CREMENT")) {
                look(u.getExpression());
            }
            return super.visitUnary(u, none);
        }
    }

    private static Set<String> faultsOf(String text) throws IOException {
        JavaCompiler compiler = ToolProvider.getSystemJavaCompiler();
        JavacTask task = (JavacTask) compiler.getTask(null, null, null, List.of("--release", "17"), null,
            List.of(new Source(text)));
        CompilationUnitTree unit = task.parse().iterator().next();
        Checker checker = new Checker(unit, Trees.instance(task).getSourcePositions());
        checker.check();
        return checker.faults;
    }

    /** Members that break a rule, each under the number of the rule. */
    private static final String[][] BROKEN = {
        {"1", "private static final class Inner { }"},
        {"1", "private interface Inner { }"},
        {"1", "private enum Inner { ONE }"},
        {"1", "private record Inner(int a) { }"},
        {"1", "private int steps(int a) { return a; }"},
        {"2", "private int bad() { double d = 1; return (int) d; }"},
        {"2", "private float bad;"},
        {"2", "private int[][] bad;"},
        {"2", "private Object bad;"},
        {"2", "private void bad() { var v = 1; }"},
        {"2", "private int bad() { return \"ab\" == \"ab\" ? 1 : 0; }"},
        {"3", "private int bad(int a) { return Math.abs(a); }"},
        {"3", "private int bad() { return hashCode(); }"},
        {"3", "private int bad() { return this.hashCode(); }"},
        {"3", "private int bad() { return Integer.MAX_VALUE; }"},
        {"3", "@Deprecated private int bad() { return 1; }"},
        {"4", "private int bad() { int[] made = new int[8]; return made[0]; }"},
        {"4", "private final int[] bad = {1, 2};"},
        {"4", "private final int[] bad = new int[0];"},
        {"4", "private final int[] bad = new int[ZERO + 1];"},
        {"4", "private int[] bad = new int[8];"},
        {"4", "private final int[] bad = good;"},
        {"4", "private int[] bad() { return good; }"},
        {"4", "private void bad(int[] one, int[] other) { one = other; }"},
        {"4", "private boolean bad(int[] one) { return one == good; }"},
        {"4", "private boolean bad(int[] one) { return one != null; }"},
        {"4", "private void bad() { new ProcessEquiv(); }"},
        {"5", "private static int bad = 1;"},
        {"5", "private static final boolean BAD = true;"},
        {"5", "private static final int[] BAD = new int[8];"},
        {"5", "static { }"},
        {"6", "private void bad() { assert ZERO == 0; }"},
        {"6", "private void bad() { synchronized (good) { } }"},
        {"6", "private synchronized int bad() { return 1; }"},
        {"6", "private void bad() { try { steps(); } finally { steps(); } }"},
        {"6", "private boolean bad(int[] one) { return one instanceof int[]; }"},
        {"6", "private void bad() { throw null; }"},
        {"6", "private int bad(int[] one) { return ((int[]) one)[0]; }"},
        {"6", "private void bad() throws RuntimeException { }"},
        {"7", "private int bad(int a) { return 8 / a; }"},
        {"7", "private int bad(int a) { return 8 % a; }"},
        {"7", "private int bad(int a) { int b = 8; b /= a; return b; }"},
        {"8", "private int bad(int a) { return a == 0 ? 0 : bad(a - 1); }"},
        {"8", "private int bad(int a) { return worse(a); } private int worse(int a) { return bad(a); }"},
        {"8", "private void bad() { while (steps() == 0) { steps(); } }"},
        {"8", "private void bad() { do { steps(); } while (steps() == 0); }"},
        {"8", "private void bad() { for (;;) { steps(); } }"},
        {"8", "private void bad(int a) { for (int i = 0; i < a; i++) { steps(); } }"},
        {"8", "private void bad() { for (int i = 0; i < 8; i++) { i--; } }"},
        {"8", "private void bad() { for (int i = 0; i < 8; i++) { i = 0; } }"},
        {"8", "private void bad() { for (int i = 0; i < 8; i++) { i -= 1; } }"},
        {"8", "private void bad() { for (int i = 0; i < 8 || ZERO == 0; i++) { steps(); } }"},
        {"8", "private void bad() { for (int i = 0; i < 8; i--) { steps(); } }"},
        {"10", "private int bad(int a, int b, int c, int d, int e, int f, int g, int h) { return a; }"},
        {"10", "private int bad(int a) { return a; } private int worse() { return bad(bad(1)); }"},
        {"10", "private int d1() { return d2(); } private int d2() { return d3(); } "
            + "private int d3() { return d4(); } private int d4() { return d5(); } "
            + "private int d5() { return d6(); } private int d6() { return steps(); }"},
        {"10", "private void bad() {" + "\n".repeat(60) + "}"},
        {"10", manyFields()},
    };

    private static String manyFields() {
        StringBuilder fields = new StringBuilder();
        for (int i = 0; i < MOST_FIELDS; i++) {
            fields.append("private int f").append(i).append("; ");
        }
        return fields.toString();
    }

    private static String withMember(String member) {
        return "public final class ProcessEquiv {\n"
            + "private static final int ZERO = 0;\n"
            + "private final int[] good = new int[8];\n"
            + "public int steps() { return good[0]; }\n"
            + member + "\n}\n";
    }

    /** Whole sources that break a rule, where no member can. */
    private static final String[][] BROKEN_SOURCES = {
        {"1", "package p; public final class ProcessEquiv { }"},
        {"1", "public final class ProcessEquiv { } final class Second { }"},
        {"1", "public class ProcessEquiv { }"},
        {"2", "public final class ProcessEquiv extends Thread { }"},
        {"2", "public final class ProcessEquiv implements Runnable { public void run() { } }"},
        {"3", "import java.util.List; public final class ProcessEquiv { }"},
    };

    /** A checker that finds no fault anywhere would seem to show that the class has none. */
    private static int missed() throws IOException {
        int missed = 0;
        if (!faultsOf(withMember("")).isEmpty()) {
            missed++;
            System.out.println("a fault is seen where none is: " + faultsOf(withMember("")));
        }
        for (String[] broken : BROKEN) {
            missed += missedIn(broken[0], withMember(broken[1]));
        }
        for (String[] broken : BROKEN_SOURCES) {
            missed += missedIn(broken[0], broken[1]);
        }
        return missed;
    }

    private static int missedIn(String rule, String text) throws IOException {
        Set<String> faults = faultsOf(text);
        if (faults.stream().anyMatch(fault -> fault.startsWith("rule " + rule + ","))) {
            return 0;
        }
        System.out.println("no fault of rule " + rule + " is seen in: " + text + faults);
        return 1;
    }

    public static void main(String[] args) throws IOException {
        int wrong = missed();
        for (String fault : faultsOf(Files.readString(PROGRAM))) {
            wrong++;
            System.out.println(PROGRAM + ": " + fault);
        }
        System.out.println(wrong == 0 ? "the language is as due" : wrong + " faults");
        if (wrong != 0) {
            System.exit(1);
        }
    }
}
