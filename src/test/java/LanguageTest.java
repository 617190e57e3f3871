import com.sun.source.tree.*;
import com.sun.source.util.JavacTask;
import com.sun.source.util.TreePath;
import com.sun.source.util.TreePathScanner;
import com.sun.source.util.Trees;
import java.io.IOException;
import java.nio.file.Files;
import java.nio.file.Path;
import java.util.ArrayList;
import java.util.HashMap;
import java.util.HashSet;
import java.util.LinkedHashMap;
import java.util.List;
import java.util.Map;
import java.util.Set;
import javax.lang.model.element.Element;
import javax.lang.model.element.ElementKind;
import javax.lang.model.element.ExecutableElement;
import javax.lang.model.element.Modifier;
import javax.lang.model.element.TypeElement;
import javax.lang.model.element.VariableElement;
import javax.lang.model.type.ArrayType;
import javax.lang.model.type.TypeKind;
import javax.lang.model.type.TypeMirror;
import javax.lang.model.util.Elements;
import javax.tools.JavaCompiler;
import javax.tools.ToolProvider;

/** The rules of LANGUAGE.md that a compiler's tree of a source shows; told as faults with the rule's number. */
public final class LanguageTest {
    private static final Check CHECK = new Check("LanguageTest");
    private static final Path PROGRAM = Path.of("src/main/java/GrindMill.java");
    private static final int LONGEST_METHOD = 60;
    private static final int MOST_PARAMETERS = 7;
    private static final int DEEPEST = 8;

    /** Rule 4, as far as the class uses it; what it uses beyond is first looked up there and added here. */
    private static final Set<String> LIBRARY = Set.of("java.lang.String.length", "java.lang.String.charAt",
        "java.lang.Integer.bitCount", "java.lang.Math.min", "java.lang.Math.max", "java.lang.System.arraycopy");
    /** Divisors that are no constants: each of them is looked at ahead of it (rule 7). */
    private static final Set<String> LOOKED_AT = Set.of("larger % smaller", "sum / divisor", "scale / divisor");

    /** A kind under another one, whose method makes a CALL. */
    private static final String UNDER = "private static class Over { int part(Over inside) { return 0; } } "
        + "private static class Under extends Over { int part(Over inside) { return CALL; } }";

    public static void main(String[] args) throws IOException {
        Source program = new Source(PROGRAM);
        List<String> faults = program.faults();
        CHECK.holds("its methods are gone through", program.calls.size() > GrindMill.class.getDeclaredMethods().length);
        for (String fault : faults) {
            CHECK.holds(fault, false);
        }
        CHECK.due("faults", faults.size(), 0);
        eachRuleIsSeen();
        CHECK.end();
    }

    /** A test that finds no fault says little, unless it finds those that are there. */
    private static void eachRuleIsSeen() throws IOException {
        seen("2 lambda", "Runnable r() { return () -> { }; }");
        seen("2 method reference", "Comparable<String> r(String s) { return s::compareTo; }");
        seen("2 local class", "void m() { class Inside { } }");
        seen("2 inner class", "class Inside { }");
        seen("3 two dimensions", "String[][] rows;");
        seen("3 three dimensions", "int[][][] rows;");
        seen("4 java.lang.String.trim", "String m(String s) { return s.trim(); }");
        seen("4 java.lang.Math.addExact", "int m(int a) { return Math.addExact(a, 1); }");
        seen("5 static", "static int kept;");
        seen("5 static", "static final int[] ROW = new int[5];");
        seen("5 static block", "static { }");
        seen("6 throw", "void m() { throw new IllegalStateException(); }");
        seen("6 try", "void m() { try { } finally { } }");
        seen("6 assert", "void m(int a) { assert a > 0; }");
        seen("6 == of texts", "boolean m(String a, String b) { return a == b; }");
        seen("7 divisor", "int m(int a, int b) { return a / b; }");
        seen("7 divisor", "int m(int a) { return a % 0; }");
        seen("7 divisor", "int m(int a, int b) { a /= b; return a; }");
        seen("8 recursion", "int m(int a) { return a > 0 ? m(a - 1) : 0; }");
        seen("8 recursion", "int m(int a) { return n(a); } int n(int a) { return m(a); }");
        seen("8 recursion", UNDER.replace("CALL", "inside.part(inside)"));
        unseen(UNDER.replace("CALL", "super.part(inside)"));
        seen("9 loop", "void m() { while (true) { } }");
        seen("9 loop", "void m() { for (;;) { } }");
        seen("10 joined texts", "String m(int a) { return \"a\" + a; }");
        seen("11 parameters", "void m(int a, int b, int c, int d, int e, int f, int g, int h) { }");
        seen("11 long", "void m() { " + "\n".repeat(LONGEST_METHOD + 1) + " }");
        seen("11 deep", deepCalls(DEEPEST + 1));
        unseen(deepCalls(DEEPEST));
        seen("12 new", "void m() { int[] row = new int[5]; }");
        seen("12 new", "void m() { int[] row = {1, 2}; }");
        unseen("final int[] row = new int[5]; void m(int a) { for (int i = 0; i < a; i++) { row[0] = i / 2; } }");
    }

    private static String deepCalls(int depth) {
        StringBuilder methods = new StringBuilder();
        for (int i = 1; i < depth; i++) {
            methods.append("void m").append(i).append("() { m").append(i + 1).append("(); } ");
        }
        return methods.append("void m").append(depth).append("() { } ").toString();
    }

    private static List<String> faultsOf(String members) throws IOException {
        Path folder = Files.createTempDirectory("language");
        Path file = folder.resolve("Sample.java");
        Files.writeString(file, "final class Sample { " + members + " }");
        List<String> faults = new Source(file).faults();
        Files.delete(file);
        Files.delete(folder);
        return faults;
    }

    private static void seen(String fault, String members) throws IOException {
        List<String> faults = faultsOf(members);
        CHECK.holds(fault + " is seen in " + members + ": " + faults, faults.stream().anyMatch(f -> f.startsWith(fault)));
    }

    private static void unseen(String members) throws IOException {
        CHECK.due("faults of " + members, faultsOf(members).size(), 0);
    }

    /** One source, gone through once. */
    private static final class Source extends TreePathScanner<Void, Void> {
        private final List<String> faults = new ArrayList<>();
        private final Map<ExecutableElement, Set<ExecutableElement>> calls = new LinkedHashMap<>();
        private final Map<ExecutableElement, Set<ExecutableElement>> overridables = new HashMap<>();
        private final List<? extends CompilationUnitTree> units;
        private final Trees trees;
        private final Elements elements;
        private LineMap lines;
        private ExecutableElement within;

        Source(Path file) throws IOException {
            JavaCompiler compiler = ToolProvider.getSystemJavaCompiler();
            var manager = compiler.getStandardFileManager(null, null, null);
            JavacTask task = (JavacTask) compiler.getTask(null, manager, d -> { }, null, null, manager.getJavaFileObjects(file));
            List<CompilationUnitTree> parsed = new ArrayList<>();
            task.parse().forEach(parsed::add);
            task.analyze();
            units = parsed;
            trees = Trees.instance(task);
            elements = task.getElements();
        }

        List<String> faults() {
            for (CompilationUnitTree unit : units) {
                lines = unit.getLineMap();
                scan(unit, null);
            }
            goDown();
            return faults;
        }

        private void fault(String what, Tree at) {
            long place = trees.getSourcePositions().getStartPosition(getCurrentPath().getCompilationUnit(), at);
            faults.add(what + ", line " + lines.getLineNumber(place) + ": " + at);
        }

        private Element element(Tree tree) {
            return trees.getElement(new TreePath(getCurrentPath(), tree));
        }

        private TypeMirror type(Tree tree) {
            return trees.getTypeMirror(new TreePath(getCurrentPath(), tree));
        }

        private boolean isText(Tree tree) {
            TypeMirror type = type(tree);
            return type != null && type.toString().equals("java.lang.String");
        }

        @Override
        public Void visitClass(ClassTree tree, Void none) {
            TypeElement type = (TypeElement) trees.getElement(getCurrentPath());
            if (type.getNestingKind().isNested()) {
                if (type.getEnclosingElement().getKind() == ElementKind.METHOD) {
                    fault("2 local class", tree);
                } else if (!type.getModifiers().contains(Modifier.STATIC)) {
                    fault("2 inner class", tree);
                }
            }
            return super.visitClass(tree, none);
        }

        @Override
        public Void visitBlock(BlockTree tree, Void none) {
            if (tree.isStatic()) {
                fault("5 static block", tree);
            }
            return super.visitBlock(tree, none);
        }

        @Override
        public Void visitMethod(MethodTree tree, Void none) {
            ExecutableElement before = within;
            within = (ExecutableElement) trees.getElement(getCurrentPath());
            calls.put(within, new HashSet<>());
            overridables.put(within, new HashSet<>());
            if (tree.getParameters().size() > MOST_PARAMETERS) {
                fault("11 parameters", tree);
            }
            CompilationUnitTree unit = getCurrentPath().getCompilationUnit();
            long start = trees.getSourcePositions().getStartPosition(unit, tree);
            long end = trees.getSourcePositions().getEndPosition(unit, tree);
            if (end > start && lines.getLineNumber(end) - lines.getLineNumber(start) >= LONGEST_METHOD) {
                fault("11 long", tree);
            }
            super.visitMethod(tree, none);
            within = before;
            return null;
        }

        @Override
        public Void visitVariable(VariableTree tree, Void none) {
            Element variable = trees.getElement(getCurrentPath());
            if (variable != null) {
                rowOf(variable.asType(), tree);
                if (variable.getModifiers().contains(Modifier.STATIC) && !isConstant(tree, variable)) {
                    fault("5 static", tree);
                }
            }
            return super.visitVariable(tree, none);
        }

        private void rowOf(TypeMirror type, Tree at) {
            int dimensions = 0;
            TypeMirror inside = type;
            while (inside instanceof ArrayType row) {
                dimensions++;
                inside = row.getComponentType();
            }
            if (dimensions > 2) {
                fault("3 three dimensions", at);
            } else if (dimensions == 2 && !inside.getKind().isPrimitive()) {
                fault("3 two dimensions", at);
            }
        }

        private static boolean isConstant(VariableTree tree, Element variable) {
            if (!variable.getModifiers().contains(Modifier.FINAL)) {
                return false;
            }
            if (variable.asType().getKind() == TypeKind.ARRAY) {
                return tree.getInitializer() instanceof NewArrayTree row && row.getInitializers() != null;
            }
            return ((VariableElement) variable).getConstantValue() != null;
        }

        @Override
        public Void visitMethodInvocation(MethodInvocationTree tree, Void none) {
            if (element(tree.getMethodSelect()) instanceof ExecutableElement called) {
                noteCall(called, tree, !tree.getMethodSelect().toString().startsWith("super"));
            }
            return super.visitMethodInvocation(tree, none);
        }

        /** By super a call reaches the method named and none that overrides it. */
        private void noteCall(ExecutableElement called, Tree at, boolean overridable) {
            String name = called.getEnclosingElement() + "." + called.getSimpleName();
            boolean library = name.startsWith("java.");
            boolean constructor = called.getKind() == ElementKind.CONSTRUCTOR;
            if (library && !constructor && !LIBRARY.contains(name)) {
                fault("4 " + name, at);
            }
            if (!library && within != null) {
                calls.get(within).add(called);
                if (overridable) {
                    overridables.get(within).add(called);
                }
            }
        }

        @Override
        public Void visitNewClass(NewClassTree tree, Void none) {
            made(tree);
            if (element(tree) instanceof ExecutableElement called) {
                noteCall(called, tree, false);
            }
            return super.visitNewClass(tree, none);
        }

        @Override
        public Void visitNewArray(NewArrayTree tree, Void none) {
            made(tree);
            return super.visitNewArray(tree, none);
        }

        /** The class makes all that it needs in constructors, so that calls take nothing of the room (rule 12). */
        private void made(Tree tree) {
            if (within != null && within.getKind() != ElementKind.CONSTRUCTOR) {
                fault("12 new", tree);
            }
        }

        @Override
        public Void visitBinary(BinaryTree tree, Void none) {
            Tree.Kind kind = tree.getKind();
            boolean texts = isText(tree.getLeftOperand()) || isText(tree.getRightOperand());
            if (kind == Tree.Kind.PLUS && texts) {
                fault("10 joined texts", tree);
            }
            if ((kind == Tree.Kind.EQUAL_TO || kind == Tree.Kind.NOT_EQUAL_TO) && texts) {
                fault("6 == of texts", tree);
            }
            if (kind == Tree.Kind.DIVIDE || kind == Tree.Kind.REMAINDER) {
                divisor(tree.getRightOperand(), tree);
            }
            return super.visitBinary(tree, none);
        }

        @Override
        public Void visitCompoundAssignment(CompoundAssignmentTree tree, Void none) {
            if (tree.getKind() == Tree.Kind.DIVIDE_ASSIGNMENT || tree.getKind() == Tree.Kind.REMAINDER_ASSIGNMENT) {
                divisor(tree.getExpression(), tree);
            }
            return super.visitCompoundAssignment(tree, none);
        }

        private void divisor(Tree divisor, Tree whole) {
            boolean constant = divisor instanceof LiteralTree literal
                && literal.getValue() instanceof Number number && number.longValue() != 0;
            if (!constant && !LOOKED_AT.contains(whole.toString())) {
                fault("7 divisor", whole);
            }
        }

        private void loop(ExpressionTree condition, Tree whole) {
            if (condition == null || condition.toString().replaceAll("[()]", "").equals("true")) {
                fault("9 loop", whole);
            }
        }

        @Override
        public Void visitForLoop(ForLoopTree tree, Void none) {
            loop(tree.getCondition(), tree);
            return super.visitForLoop(tree, none);
        }

        @Override
        public Void visitWhileLoop(WhileLoopTree tree, Void none) {
            loop(tree.getCondition(), tree);
            return super.visitWhileLoop(tree, none);
        }

        @Override
        public Void visitDoWhileLoop(DoWhileLoopTree tree, Void none) {
            loop(tree.getCondition(), tree);
            return super.visitDoWhileLoop(tree, none);
        }

        @Override
        public Void visitLambdaExpression(LambdaExpressionTree tree, Void none) {
            fault("2 lambda", tree);
            return super.visitLambdaExpression(tree, none);
        }

        @Override
        public Void visitMemberReference(MemberReferenceTree tree, Void none) {
            fault("2 method reference", tree);
            return super.visitMemberReference(tree, none);
        }

        @Override
        public Void visitThrow(ThrowTree tree, Void none) {
            fault("6 throw", tree);
            return super.visitThrow(tree, none);
        }

        @Override
        public Void visitTry(TryTree tree, Void none) {
            fault("6 try", tree);
            return super.visitTry(tree, none);
        }

        @Override
        public Void visitAssert(AssertTree tree, Void none) {
            fault("6 assert", tree);
            return super.visitAssert(tree, none);
        }

        private void goDown() {
            addOverriding();
            Map<ExecutableElement, Integer> depths = new HashMap<>();
            for (ExecutableElement method : calls.keySet()) {
                if (depth(method, depths, new ArrayList<>()) > DEEPEST) {
                    faults.add("11 deep: " + method);
                }
            }
        }

        /** A call may reach what overrides the method named, so those are called, too. */
        private void addOverriding() {
            for (ExecutableElement caller : calls.keySet()) {
                for (ExecutableElement method : overridables.get(caller)) {
                    for (ExecutableElement other : calls.keySet()) {
                        if (elements.overrides(other, method, (TypeElement) other.getEnclosingElement())) {
                            calls.get(caller).add(other);
                        }
                    }
                }
            }
        }

        private int depth(ExecutableElement method, Map<ExecutableElement, Integer> depths, List<ExecutableElement> open) {
            if (open.contains(method)) {
                faults.add("8 recursion: " + open);
                return 0;
            }
            if (!depths.containsKey(method)) {
                open.add(method);
                int deepest = 0;
                for (ExecutableElement called : calls.getOrDefault(method, Set.of())) {
                    deepest = Math.max(deepest, depth(called, depths, open));
                }
                open.remove(open.size() - 1);
                depths.put(method, deepest + 1);
            }
            return depths.get(method);
        }
    }
}
