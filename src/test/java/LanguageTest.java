import com.sun.source.tree.*;
import com.sun.source.util.JavacTask;
import com.sun.source.util.SourcePositions;
import com.sun.source.util.TreePath;
import com.sun.source.util.TreePathScanner;
import com.sun.source.util.TreeScanner;
import com.sun.source.util.Trees;
import java.io.IOException;
import java.net.URI;
import java.nio.file.Files;
import java.nio.file.Path;
import java.util.ArrayList;
import java.util.EnumSet;
import java.util.HashMap;
import java.util.HashSet;
import java.util.List;
import java.util.Map;
import java.util.Set;
import java.util.TreeSet;
import javax.lang.model.element.Element;
import javax.lang.model.element.ElementKind;
import javax.lang.model.element.Modifier;
import javax.lang.model.element.VariableElement;
import javax.lang.model.type.ArrayType;
import javax.lang.model.type.TypeKind;
import javax.lang.model.type.TypeMirror;
import javax.tools.JavaCompiler;
import javax.tools.JavaFileObject;
import javax.tools.SimpleJavaFileObject;
import javax.tools.ToolProvider;

/**
 * The program keeps to ../shared/LANGUAGE.md, as far as that shows in its text; rule 7 (no call ever
 * throws) is left to the tests that make calls, but for divisors. Where a rule is hard to decide, more
 * is asked than the rule says: loops are counting for-loops, and no local variable names an array.
 */
public final class LanguageTest {
    private static final Path PROGRAM = Path.of("src/main/java/ObligationNetting.java");

    public static void main(String[] args) throws IOException {
        boolean right = brokenOnesAreFound();
        List<String> breaches = breaches(Files.readString(PROGRAM));
        for (String breach : breaches) {
            System.out.println(breach);
        }
        if (!right || !breaches.isEmpty()) {
            System.exit(1);
        }
        System.out.println("the program keeps to the rules");
    }

    /** Each rule's number, and members that break it: what the check is worth. */
    private static final String[][] BROKEN = {
        {"1", "int shown;"}, {"1", "protected void f() { }"}, {"1", "class Inner { }"},
        {"1", "private enum E { A }"}, {"1", "private int one(int a) { return a; }"},
        {"2", "private double d;"}, {"2", "private int f() { return (int) 1.5; }"},
        {"2", "private int[][] a = new int[2][2];"}, {"2", "private Object o;"},
        {"2", "private int f() { return \"a\" == \"b\" ? 1 : 0; }"},
        {"3", "private int f() { return Math.abs(1); }"},
        {"3", "private int f() { return Integer.MAX_VALUE; }"}, {"3", "private int f() { return hashCode(); }"},
        {"4", "private final int[] a = {1, 2};"}, {"4", "private final int[] a = new int[0];"},
        {"4", "private int n = 3; private final int[] a = new int[n];"},
        {"4", "private int[] a = new int[3]; private void f() { a = new int[3]; }"},
        {"4", "private final int[] a = new int[3]; private int[] f() { return a; }"},
        {"4", "private final int[] a = new int[3]; private void f() { int[] b = a; }"},
        {"4", "private final int[] a = new int[3]; private boolean f(int[] b) { return a == b; }"},
        {"4", "private final int[] a = new int[3]; private boolean f() { return a != null; }"},
        {"5", "private static int s = 1;"}, {"5", "private static final int[] A = new int[1];"},
        {"5", "private static final boolean B = true;"}, {"5", "static { }"},
        {"6", "private void f() { throw null; }"}, {"6", "private void f() { try { } finally { } }"},
        {"6", "private void f() { synchronized (this) { } }"}, {"6", "private void f() { assert true; }"},
        {"6", "private void f() { Runnable r = () -> { }; }"},
        {"7", "private int f(int a) { return 1 / a; }"}, {"7", "private int f(int a) { a %= a; return a; }"},
        {"7", "private int f() { return 1 / 0; }"},
        {"8", "private int f(int a) { return a == 0 ? 0 : f(a - 1); }"},
        {"8", "private int f(int a) { return g(a); } private int g(int a) { return f(a); }"},
        {"8", "private void f() { while (true) { } }"}, {"8", "private void f() { for (;;) { } }"},
        {"8", "private void f() { for (int i = 0; i < 3; i++) { i--; } }"},
        {"8", "private void f() { int e = 3; for (int i = 0; i < e; i++) { e++; } }"},
        {"10", "private void f(int a, int b, int c, int d, int e, int g, int h, int i) { }"},
        {"10", "private int f(int a) { return a; } private int g() { return f(f(1)); }"},
        {"10", "private int f(int a) { return a; } private int g() { return f(1 + f(1)); }"},
        {"10", "private void a() { b(); } private void b() { c(); } private void c() { d(); }"
            + " private void d() { e(); } private void e() { f(); } private void f() { g(); }"
            + " private void g() { }"},
        {"10", "private void f() {" + "\n".repeat(61) + "}"},
    };

    private static boolean brokenOnesAreFound() {
        boolean right = true;
        String plain = "public final class ObligationNetting { public int one() { return 1; } ";
        for (String[] broken : BROKEN) {
            List<String> found = breaches(plain + broken[1] + " }");
            if (found.stream().noneMatch(breach -> breach.startsWith("rule " + broken[0] + ","))) {
                right = false;
                System.out.println("rule " + broken[0] + " is not looked at in: " + broken[1]);
            }
        }
        if (!breaches(plain + "}").isEmpty()) {
            right = false;
            System.out.println("a class that keeps to the rules is found wanting");
        }
        return right;
    }

    private static List<String> breaches(String text) {
        JavaCompiler compiler = ToolProvider.getSystemJavaCompiler();
        JavaFileObject source = new SimpleJavaFileObject(
                URI.create("string:///ObligationNetting.java"), JavaFileObject.Kind.SOURCE) {
            @Override
            public CharSequence getCharContent(boolean ignoreErrors) {
                return text;
            }
        };
        List<String> options = List.of("-proc:none");
        JavacTask task = (JavacTask) compiler.getTask(null, null, problem -> { }, options, null, List.of(source));
        try {
            CompilationUnitTree unit = task.parse().iterator().next();
            task.analyze();
            Rules rules = new Rules(unit, Trees.instance(task));
            rules.scan(unit, null);
            rules.lookAtCalls();
            return rules.breaches;
        } catch (IOException never) {
            throw new IllegalStateException(never);
        }
    }

    /** One walk over the program's tree; what breaks a rule is kept with the rule's number and line. */
    private static final class Rules extends TreePathScanner<Void, Void> {
        private static final Set<TypeKind> NUMBERS = EnumSet.of(TypeKind.INT, TypeKind.LONG, TypeKind.SHORT,
            TypeKind.BYTE, TypeKind.CHAR, TypeKind.BOOLEAN);
        private static final Set<Tree.Kind> BARRED = EnumSet.of(Tree.Kind.THROW, Tree.Kind.TRY, Tree.Kind.CATCH,
            Tree.Kind.SYNCHRONIZED, Tree.Kind.ASSERT, Tree.Kind.INSTANCE_OF, Tree.Kind.LAMBDA_EXPRESSION,
            Tree.Kind.MEMBER_REFERENCE);
        private static final Set<Tree.Kind> DIVIDING = EnumSet.of(Tree.Kind.DIVIDE, Tree.Kind.REMAINDER,
            Tree.Kind.DIVIDE_ASSIGNMENT, Tree.Kind.REMAINDER_ASSIGNMENT);
        private static final Set<Tree.Kind> LOOPS = EnumSet.of(Tree.Kind.WHILE_LOOP, Tree.Kind.DO_WHILE_LOOP,
            Tree.Kind.ENHANCED_FOR_LOOP);

        final List<String> breaches = new ArrayList<>();
        private final CompilationUnitTree unit;
        private final Trees trees;
        private final Map<String, Set<String>> calls = new HashMap<>();
        private String method = "";

        Rules(CompilationUnitTree unit, Trees trees) {
            this.unit = unit;
            this.trees = trees;
        }

        private void breach(int rule, Tree where, String what) {
            breaches.add("rule " + rule + ", line " + lineOf(startOf(where)) + ": " + what);
        }

        private long startOf(Tree tree) {
            return trees.getSourcePositions().getStartPosition(unit, tree);
        }

        private long lineOf(long position) {
            return unit.getLineMap().getLineNumber(Math.max(0, position));
        }

        private TypeMirror typeOf(Tree tree) {
            return trees.getTypeMirror(new TreePath(getCurrentPath(), tree));
        }

        private Element elementOf(Tree tree) {
            return trees.getElement(new TreePath(getCurrentPath(), tree));
        }

        private static boolean isNumber(TypeMirror type) {
            return type != null && NUMBERS.contains(type.getKind());
        }

        private static boolean isArray(TypeMirror type) {
            return type != null && type.getKind() == TypeKind.ARRAY;
        }

        private static boolean isAllowed(TypeMirror type) {
            return isNumber(type) || isArray(type) && isNumber(((ArrayType) type).getComponentType());
        }

        @Override
        public Void visitCompilationUnit(CompilationUnitTree node, Void none) {
            if (node.getPackage() != null || node.getTypeDecls().size() != 1) {
                breach(1, node, "a package, or more than one class");
            }
            if (!node.getImports().isEmpty()) {
                breach(3, node, "an import");
            }
            return super.visitCompilationUnit(node, none);
        }

        @Override
        public Void visitClass(ClassTree node, Void none) {
            boolean outer = getCurrentPath().getParentPath().getLeaf() == unit;
            Set<Modifier> want = EnumSet.of(Modifier.PUBLIC, Modifier.FINAL);
            if (!outer || node.getKind() != Tree.Kind.CLASS || !node.getModifiers().getFlags().equals(want)
                    || !node.getSimpleName().contentEquals("ObligationNetting")
                    || node.getExtendsClause() != null || !node.getImplementsClause().isEmpty()
                    || !node.getTypeParameters().isEmpty()) {
                breach(1, node, "not the one public final class");
            }
            lookAtMembers(node);
            return super.visitClass(node, none);
        }

        private void lookAtMembers(ClassTree node) {
            Set<String> open = new HashSet<>();
            Set<String> hidden = new HashSet<>();
            int fields = 0;
            for (Tree member : node.getMembers()) {
                if (member instanceof MethodTree) {
                    MethodTree it = (MethodTree) member;
                    boolean isPrivate = it.getModifiers().getFlags().contains(Modifier.PRIVATE);
                    (isPrivate ? hidden : open).add(it.getName().toString());
                } else if (member instanceof VariableTree) {
                    fields += ((VariableTree) member).getModifiers().getFlags().contains(Modifier.STATIC) ? 0 : 1;
                } else if (member instanceof BlockTree) {
                    breach(((BlockTree) member).isStatic() ? 5 : 4, member, "an initialiser block");
                } else {
                    breach(1, member, "a nested type");
                }
            }
            hidden.retainAll(open);
            if (!hidden.isEmpty()) {
                breach(1, node, "private and public methods of one name: " + hidden);
            }
            if (fields > 40) {
                breach(10, node, fields + " fields");
            }
        }

        @Override
        public Void visitMethod(MethodTree node, Void none) {
            Set<Modifier> flags = node.getModifiers().getFlags();
            if (!flags.contains(Modifier.PRIVATE) && !flags.contains(Modifier.PUBLIC)) {
                breach(1, node, "neither public nor private: " + node.getName());
            }
            if (node.getReturnType() != null) {
                lookAtAnswer(node);
            }
            if (node.getParameters().size() > 7) {
                breach(10, node, "more than seven parameters");
            }
            SourcePositions positions = trees.getSourcePositions();
            long lines = lineOf(positions.getEndPosition(unit, node)) - lineOf(startOf(node)) + 1;
            if (lines > 60) {
                breach(10, node, lines + " lines");
            }
            method = node.getName().toString();
            calls.putIfAbsent(method, new TreeSet<>());
            super.visitMethod(node, none);
            method = "";
            return null;
        }

        private void lookAtAnswer(MethodTree node) {
            TypeMirror type = typeOf(node.getReturnType());
            if (isArray(type)) {
                breach(4, node, "an array is answered");
            } else if (!isNumber(type) && type.getKind() != TypeKind.VOID) {
                breach(2, node, "answers " + type);
            }
        }

        @Override
        public Void visitVariable(VariableTree node, Void none) {
            Element element = trees.getElement(getCurrentPath());
            TypeMirror type = element.asType();
            if (!isAllowed(type)) {
                breach(2, node, "type " + type);
            }
            if (element.getKind() == ElementKind.FIELD) {
                lookAtField(node, (VariableElement) element);
            } else if (element.getKind() != ElementKind.PARAMETER && isArray(type)) {
                breach(4, node, "a local variable names an array");
            }
            return super.visitVariable(node, none);
        }

        private void lookAtField(VariableTree node, VariableElement field) {
            Set<Modifier> flags = field.getModifiers();
            TypeKind kind = field.asType().getKind();
            // The document's face names no constant, so that none of the fields is public.
            if (!flags.contains(Modifier.PRIVATE)) {
                breach(1, node, "a field that is not private");
            }
            if (flags.contains(Modifier.STATIC)
                    && (field.getConstantValue() == null || kind != TypeKind.INT && kind != TypeKind.LONG)) {
                breach(5, node, "static, but no constant of int or long");
            }
            if (kind == TypeKind.ARRAY && !flags.contains(Modifier.FINAL)) {
                breach(4, node, "an array field that is not final");
            }
        }

        @Override
        public Void visitNewArray(NewArrayTree node, Void none) {
            Tree parent = getCurrentPath().getParentPath().getLeaf();
            Tree holder = getCurrentPath().getParentPath().getParentPath().getLeaf();
            if (!(parent instanceof VariableTree && holder instanceof ClassTree)) {
                breach(4, node, "an array that is not made as a field's initialiser");
            }
            if (node.getInitializers() != null || node.getDimensions().size() != 1) {
                breach(4, node, "an array without one length");
            } else if (constantOf(node.getDimensions().get(0)) < 1) {
                breach(4, node, "a length that is not a constant, 1 or more");
            }
            return super.visitNewArray(node, none);
        }

        /** The value of a literal or a named constant, and 0 for all else. */
        private long constantOf(Tree tree) {
            Object value = null;
            if (tree instanceof LiteralTree) {
                value = ((LiteralTree) tree).getValue();
            } else if (tree instanceof IdentifierTree && elementOf(tree) instanceof VariableElement) {
                value = ((VariableElement) elementOf(tree)).getConstantValue();
            }
            return value instanceof Number ? ((Number) value).longValue() : 0;
        }

        @Override
        public Void visitNewClass(NewClassTree node, Void none) {
            breach(4, node, "an object is made");
            return super.visitNewClass(node, none);
        }

        @Override
        public Void visitLiteral(LiteralTree node, Void none) {
            if (node.getKind() == Tree.Kind.NULL_LITERAL) {
                breach(4, node, "null");
            } else if (!isNumber(trees.getTypeMirror(getCurrentPath()))) {
                breach(2, node, "the literal " + node);
            }
            return super.visitLiteral(node, none);
        }

        @Override
        public Void visitBinary(BinaryTree node, Void none) {
            if (isArray(typeOf(node.getLeftOperand())) || isArray(typeOf(node.getRightOperand()))) {
                breach(4, node, "an array is compared");
            }
            if (DIVIDING.contains(node.getKind()) && constantOf(node.getRightOperand()) == 0) {
                breach(7, node, "a divisor that is not a constant");
            }
            return super.visitBinary(node, none);
        }

        @Override
        public Void visitCompoundAssignment(CompoundAssignmentTree node, Void none) {
            if (DIVIDING.contains(node.getKind()) && constantOf(node.getExpression()) == 0) {
                breach(7, node, "a divisor that is not a constant");
            }
            return super.visitCompoundAssignment(node, none);
        }

        @Override
        public Void visitTypeCast(TypeCastTree node, Void none) {
            if (!isNumber(typeOf(node.getType()))) {
                breach(6, node, "a cast of a reference");
            }
            return super.visitTypeCast(node, none);
        }

        @Override
        public Void visitIdentifier(IdentifierTree node, Void none) {
            lookAtName(node);
            return super.visitIdentifier(node, none);
        }

        @Override
        public Void visitMemberSelect(MemberSelectTree node, Void none) {
            boolean ownField = node.getExpression().toString().equals("this");
            boolean length = node.getIdentifier().contentEquals("length") && isArray(typeOf(node.getExpression()));
            if (!ownField && !length) {
                breach(3, node, "a name of something else: " + node);
            }
            return super.visitMemberSelect(node, none);
        }

        /** Every name is that of a member of this class or of a variable in it. */
        private void lookAtName(IdentifierTree node) {
            Element element = trees.getElement(getCurrentPath());
            Element holder = element == null ? null : element.getEnclosingElement();
            boolean implicit = node.getName().contentEquals("super") || node.getName().contentEquals("this");
            while (holder != null && holder.getKind() != ElementKind.CLASS) {
                holder = holder.getEnclosingElement();
            }
            boolean own = holder != null && holder.getSimpleName().contentEquals("ObligationNetting");
            if (!own && !implicit) {
                breach(3, node, "a name of something else: " + node);
            }
        }

        @Override
        public Void visitMethodInvocation(MethodInvocationTree node, Void none) {
            if (!node.getMethodSelect().toString().equals("super")) {
                calls.computeIfAbsent(method, key -> new TreeSet<>()).add(node.getMethodSelect().toString());
            }
            for (ExpressionTree argument : node.getArguments()) {
                if (holdsACall(argument)) {
                    breach(10, node, "a call inside the arguments of another call");
                }
            }
            return super.visitMethodInvocation(node, none);
        }

        private static boolean holdsACall(Tree tree) {
            Boolean found = new TreeScanner<Boolean, Void>() {
                @Override
                public Boolean visitMethodInvocation(MethodInvocationTree node, Void none) {
                    return true;
                }

                @Override
                public Boolean reduce(Boolean one, Boolean other) {
                    return one == Boolean.TRUE || other == Boolean.TRUE;
                }
            }.scan(tree, null);
            return found == Boolean.TRUE;
        }

        @Override
        public Void visitForLoop(ForLoopTree node, Void none) {
            String counter = counterOf(node);
            if (counter == null) {
                breach(8, node, "not a loop of the form for (int i = ..; i < bound; i++)");
            } else {
                Set<String> set = new HashSet<>();
                collectSet(node.getStatement(), set);
                set.retainAll(Set.of(counter, boundOf(node)));
                if (!set.isEmpty()) {
                    breach(8, node, "the loop sets its own counter or bound");
                }
            }
            return super.visitForLoop(node, none);
        }

        private static String counterOf(ForLoopTree node) {
            if (node.getInitializer().size() != 1 || !(node.getInitializer().get(0) instanceof VariableTree)
                    || node.getUpdate().size() != 1 || node.getCondition() == null
                    || node.getCondition().getKind() != Tree.Kind.LESS_THAN) {
                return null;
            }
            String name = ((VariableTree) node.getInitializer().get(0)).getName().toString();
            Tree left = ((BinaryTree) node.getCondition()).getLeftOperand();
            Tree right = ((BinaryTree) node.getCondition()).getRightOperand();
            boolean counts = node.getUpdate().get(0).toString().equals(name + "++;");
            boolean bounded = right instanceof IdentifierTree || right instanceof LiteralTree;
            return counts && bounded && left.toString().equals(name) ? name : null;
        }

        private static String boundOf(ForLoopTree node) {
            return ((BinaryTree) node.getCondition()).getRightOperand().toString();
        }

        private static void collectSet(Tree body, Set<String> names) {
            new TreeScanner<Void, Void>() {
                @Override
                public Void visitAssignment(AssignmentTree node, Void none) {
                    names.add(node.getVariable().toString());
                    return super.visitAssignment(node, none);
                }

                @Override
                public Void visitCompoundAssignment(CompoundAssignmentTree node, Void none) {
                    names.add(node.getVariable().toString());
                    return super.visitCompoundAssignment(node, none);
                }

                @Override
                public Void visitUnary(UnaryTree node, Void none) {
                    names.add(node.getExpression().toString());
                    return super.visitUnary(node, none);
                }
            }.scan(body, null);
        }

        @Override
        public Void scan(Tree node, Void none) {
            if (node != null && BARRED.contains(node.getKind())) {
                breach(6, node, node.getKind().toString());
            }
            if (node != null && LOOPS.contains(node.getKind())) {
                breach(8, node, "not a counting loop");
            }
            return super.scan(node, none);
        }

        /** Rule 8's recursion and rule 10's depth, once all calls are known. */
        void lookAtCalls() {
            for (String start : calls.keySet()) {
                int depth = depthOf(start, new ArrayList<>());
                if (depth > calls.size()) {
                    breaches.add("rule 8, method " + start + ": calls that come round again");
                } else if (depth > 6) {
                    breaches.add("rule 10, method " + start + ": calls " + depth + " deep");
                }
            }
        }

        private int depthOf(String start, List<String> above) {
            if (above.contains(start)) {
                return calls.size() + 1;
            }
            above.add(start);
            int deepest = 0;
            for (String called : calls.getOrDefault(start, Set.of())) {
                deepest = Math.max(deepest, depthOf(called, above));
            }
            above.remove(above.size() - 1);
            return deepest + 1;
        }
    }
}
