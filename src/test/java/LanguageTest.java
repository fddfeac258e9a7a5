import com.sun.source.tree.*;
import com.sun.source.util.JavacTask;
import com.sun.source.util.TreePath;
import com.sun.source.util.TreePathScanner;
import com.sun.source.util.Trees;
import java.net.URI;
import java.nio.file.Files;
import java.nio.file.Path;
import java.util.ArrayList;
import java.util.HashMap;
import java.util.HashSet;
import java.util.LinkedHashMap;
import java.util.LinkedHashSet;
import java.util.List;
import java.util.Map;
import java.util.Set;
import javax.lang.model.element.Element;
import javax.lang.model.element.ElementKind;
import javax.lang.model.element.ExecutableElement;
import javax.lang.model.element.Modifier;
import javax.lang.model.element.TypeElement;
import javax.lang.model.element.VariableElement;
import javax.lang.model.type.ArrayType;
import javax.lang.model.type.DeclaredType;
import javax.lang.model.type.TypeKind;
import javax.lang.model.type.TypeMirror;
import javax.tools.JavaCompiler;
import javax.tools.JavaFileObject;
import javax.tools.SimpleJavaFileObject;
import javax.tools.ToolProvider;

/**
 * LANGUAGE.md, as far as the source shows it: the compiler reads the class, and what stands outside a rule is told with
 * the rule's number. Samples that break a rule each show that this test sees it. (Rule 7 is WildTest's, EdgesTest's and
 * TwinTest's, the face of rule 1 is FaceTest's, the room of rule 12 is RoomTest's.)
 */
public final class LanguageTest {
    private static final int PARAMETERS = 7, LINES = 60, DEPTH = 8, CLASSES = 12, FIELDS = 20;
    private static final Set<String> IMPORTS = Set.of("java.util.ArrayList", "java.util.List", "java.util.Arrays",
        "java.util.Iterator");
    private static final Set<String> TYPES = Set.of("java.lang.String", "java.lang.StringBuilder", "java.util.ArrayList",
        "java.util.List", "java.util.Iterator", "java.lang.Iterable", "java.lang.Comparable");
    private static final Set<String> LIST = Set.of("add", "get", "set", "remove", "size", "isEmpty", "clear", "of");
    private static final Map<String, Set<String>> LIBRARY = Map.of(
        "java.lang.String", Set.of("length", "charAt", "isEmpty", "equals", "indexOf", "substring", "toCharArray"),
        "java.lang.StringBuilder", Set.of("append", "charAt", "setCharAt", "setLength", "deleteCharAt", "reverse", "length",
            "toString"),
        "java.util.ArrayList", LIST, "java.util.List", LIST,
        "java.lang.System", Set.of("arraycopy"), "java.util.Arrays", Set.of("copyOf", "copyOfRange", "fill"));
    private static final Set<String> NUMBERS = Set.of("java.lang.Integer", "java.lang.Long", "java.lang.Math");

    /** Members of a class that break a rule each. */
    private static final String[][] BROKEN = {
        {"1", "int open;"}, {"1", "void open() { }"}, {"1", "protected int f() { return 0; }"},
        {"1", "public static class Open { }"}, {"1", "public int f() { return 0; } private int f(int a) { return a; }"},
        {"2", "private class Inner { }"}, {"2", "private void f() { class Local { } }"},
        {"2", "private Object f() { return new Object() { }; }"}, {"2", "private Runnable f() { return () -> { }; }"},
        {"2", "private Runnable f() { return this::hashCode; }"}, {"2", "private enum E { A { } }"},
        {"2", "private enum E { A; private int[] row; }"},
        {"3", "private Object x;"}, {"3", "private int[][][] x;"}, {"3", "private String[][] x;"}, {"3", "private Integer x;"},
        {"3", "private java.util.Map<Integer, Integer> x;"}, {"3", "private java.util.ArrayList<String> x;"},
        {"4", "private String f(String s) { return s.trim(); }"}, {"4", "private int f() { return Math.addExact(1, 2); }"},
        {"4", "private void f(Object[] a) { java.util.Arrays.fill(a, null); }"}, {"4", "private int f() { return Integer.MAX_VALUE; }"},
        {"4", "private Object f() { return new java.util.HashMap<Integer, Integer>(); }"},
        {"4", "private String f() { return \"\\u00e9\"; }"}, {"4", "private long f() { return System.nanoTime(); }"},
        {"5", "private static int state;"}, {"5", "private static final boolean[] X = {true};"},
        {"5", "private static final int[] X = new int[3];"}, {"5", "static { }"},
        {"5", "private static final int[] X = {1}; private void f() { X[0] = 2; }"},
        {"5", "private static final int[] X = {1}; private void f() { X[0]++; }"},
        {"6", "private void f() { throw new IllegalStateException(); }"}, {"6", "private void f() { try { } finally { } }"},
        {"6", "private void f() { synchronized (this) { } }"}, {"6", "private void f() { assert true; }"},
        {"6", "private boolean f(String a, String b) { return a == b; }"}, {"6", "public int hashCode() { return 0; }"},
        {"6", "private Integer f(Object o) { return (Integer) o; }"},
        {"8", "public int f(int a) { return a == 0 ? 0 : f(a - 1); }"},
        {"8", "private int f(int a) { return a == 0 ? 0 : f(a - 1); }"},
        {"8", "public int f(int a) { return a == 0 ? 0 : g(a - 1); } private int g(int a) { return f(a); }"},
        {"9", "private void f() { while (true) { } }"}, {"9", "private void f() { for (;;) { } }"},
        {"10", "private String f(String a) { return a + 1; }"}, {"10", "private void f(String a) { a += 1; }"},
        {"10", "private int f(String a) { switch (a) { case \"\": return 1; default: return 0; } }"},
        {"11", "private void f(int a, int b, int c, int d, int e, int g, int h, int i) { }"},
        {"11", "private void f() {" + "\n".repeat(70) + "}"}, 
        {"11", "private int a, b, c, d, e, f, g, h, i, j, k, l, m, n, o, p, q, r, s, t, u;"},
        {"11", chain(8)}, {"11", classes(12)},
        {"12", "private static class A { A() { f(); } void f() { } }"},
        {"12", "private int f(java.util.ArrayList<Integer> a) { int s = 0; for (int x : a) { s += x; } return s; }"},
    };

    private static String chain(int deep) {
        StringBuilder all = new StringBuilder("private int f0() { return 0; }");
        for (int k = 1; k <= deep; k++) all.append("private int f" + k + "() { return f" + (k - 1) + "(); }");
        return all.toString();
    }

    private static String classes(int many) {
        StringBuilder all = new StringBuilder();
        for (int k = 0; k < many; k++) all.append("private static final class C" + k + " { }");
        return all.toString();
    }

    private static final class Source extends SimpleJavaFileObject {
        private final String text;

        Source(String text) {
            super(URI.create("string:///SeenWords.java"), Kind.SOURCE);
            this.text = text;
        }

        @Override
        public CharSequence getCharContent(boolean ignoreErrors) { return text; }
    }

    private static final class Rules extends TreePathScanner<Void, Void> {
        private final Set<String> wrong = new LinkedHashSet<>();
        private final CompilationUnitTree unit;
        private final Trees trees;
        private final Map<Element, Set<Element>> calls = new LinkedHashMap<>();
        private final Set<Element> own = new HashSet<>();
        private final Set<String> publicNames = new HashSet<>();

        Rules(CompilationUnitTree unit, Trees trees) {
            this.unit = unit;
            this.trees = trees;
        }

        private void rule(int number, Tree at, String what) {
            long line = unit.getLineMap().getLineNumber(trees.getSourcePositions().getStartPosition(unit, at));
            wrong.add("rule " + number + ": line " + line + ": " + what);
        }

        private Element element(Tree tree) { return trees.getElement(TreePath.getPath(unit, tree)); }
        private TypeMirror type(Tree tree) { return trees.getTypeMirror(TreePath.getPath(unit, tree)); }
        private static String name(TypeMirror type) {
            return type instanceof DeclaredType d ? ((TypeElement) d.asElement()).getQualifiedName().toString() : type.toString();
        }
        private static boolean is(TypeMirror type, String name) { return type != null && name(type).equals(name); }
        private boolean isOwn(TypeMirror type) {
            return type instanceof DeclaredType d && own.contains(d.asElement());
        }
        private static boolean isNumber(TypeMirror type) {
            return type.getKind().isPrimitive() && type.getKind() != TypeKind.BOOLEAN;
        }

        private boolean isAllowed(TypeMirror type) {
            if (type.getKind().isPrimitive() || type.getKind() == TypeKind.VOID || type.getKind() == TypeKind.TYPEVAR) return true;
            if (type instanceof ArrayType row) {
                TypeMirror of = row.getComponentType();
                if (of instanceof ArrayType rows) return isNumber(rows.getComponentType());
                return of.getKind().isPrimitive() || isOwn(of);
            }
            if (!isOwn(type) && !TYPES.contains(name(type))) return false;
            for (TypeMirror of : ((DeclaredType) type).getTypeArguments())
                if (!isOwn(of) && of.getKind() != TypeKind.TYPEVAR && !is(of, "java.lang.Integer")) return false;
            return true;
        }

        @Override
        public Void visitCompilationUnit(CompilationUnitTree node, Void none) {
            if (node.getPackage() != null) rule(1, node, "a package");
            for (ImportTree each : node.getImports())
                if (each.isStatic() || !IMPORTS.contains(each.getQualifiedIdentifier().toString())) rule(4, each, "" + each);
            if (node.getTypeDecls().size() != 1) rule(1, node, "more than one class");
            new TreePathScanner<Void, Void>() {
                @Override
                public Void visitClass(ClassTree inside, Void n) {
                    own.add(trees.getElement(getCurrentPath()));
                    return super.visitClass(inside, n);
                }
            }.scan(node, null);
            if (own.size() > CLASSES) rule(11, node, own.size() + " classes");
            for (Element member : element(node.getTypeDecls().get(0)).getEnclosedElements())
                if (member.getKind() == ElementKind.METHOD && member.getModifiers().contains(Modifier.PUBLIC))
                    publicNames.add(member.getSimpleName().toString());
            return super.visitCompilationUnit(node, none);
        }

        @Override
        public Void visitClass(ClassTree node, Void none) {
            Set<Modifier> is = element(node).getModifiers();
            Tree parent = getCurrentPath().getParentPath().getLeaf();
            if (parent instanceof CompilationUnitTree) {
                if (!is.equals(Set.of(Modifier.PUBLIC, Modifier.FINAL))) rule(1, node, "the class is public and final");
            } else {
                if (!(parent instanceof ClassTree) || !is.contains(Modifier.STATIC)) rule(2, node, "a class that is not static");
                if (is.contains(Modifier.PUBLIC) || is.contains(Modifier.PROTECTED)) rule(1, node, "a class that is seen");
            }
            int fields = 0;
            for (Element member : element(node).getEnclosedElements())
                if (member.getKind() == ElementKind.FIELD && !member.getModifiers().contains(Modifier.STATIC)) fields++;
            if (fields > FIELDS) rule(11, node, fields + " fields");
            return super.visitClass(node, none);
        }

        private void checkMember(Tree node, Set<Modifier> is) {
            if (getCurrentPath().getParentPath().getParentPath().getLeaf() instanceof CompilationUnitTree
                && is.contains(Modifier.PUBLIC) == is.contains(Modifier.PRIVATE)) rule(1, node, "neither public nor private");
        }

        @Override
        public Void visitMethod(MethodTree node, Void none) {
            ExecutableElement method = (ExecutableElement) element(node);
            boolean seen = method.getModifiers().contains(Modifier.PUBLIC);
            String name = method.getSimpleName().toString();
            long start = unit.getLineMap().getLineNumber(trees.getSourcePositions().getStartPosition(unit, node));
            long end = unit.getLineMap().getLineNumber(Math.max(1, trees.getSourcePositions().getEndPosition(unit, node)));
            if (method.getKind() == ElementKind.METHOD) {
                checkMember(node, method.getModifiers());
                if (!seen && publicNames.contains(name)) rule(1, node, name + " is a public one's name");
                if (!isAllowed(method.getReturnType())) rule(3, node, "" + method.getReturnType());
                if (Set.of("equals", "hashCode", "toString").contains(name)) rule(6, node, name);
            }
            if (!seen && method.getParameters().size() > PARAMETERS) rule(11, node, name + " takes many parameters");
            if (end - start + 1 > LINES) rule(11, node, name + " is long");
            calls.putIfAbsent(method, new LinkedHashSet<>());
            return super.visitMethod(node, none);
        }

        @Override
        public Void visitVariable(VariableTree node, Void none) {
            VariableElement v = (VariableElement) element(node);
            if (!isAllowed(v.asType())) rule(3, node, "" + v.asType());
            if (v.getKind() == ElementKind.FIELD) {
                checkMember(node, v.getModifiers());
                if (v.getModifiers().contains(Modifier.STATIC)) checkStatic(node, v);
                else if (v.getEnclosingElement().getKind() == ElementKind.ENUM
                    && !v.asType().getKind().isPrimitive() && !is(v.asType(), "java.lang.String")) rule(2, node, "an enum's field");
            }
            return super.visitVariable(node, none);
        }

        private void checkStatic(VariableTree node, VariableElement v) {
            boolean written = node.getInitializer() instanceof NewArrayTree row && row.getInitializers() != null
                && v.asType() instanceof ArrayType of && Set.of(TypeKind.INT, TypeKind.LONG, TypeKind.CHAR, TypeKind.BYTE)
                    .contains(of.getComponentType().getKind());
            if (!v.getModifiers().contains(Modifier.FINAL) || (v.getConstantValue() == null && !written))
                rule(5, node, v + " is no constant");
        }

        private Element maker() {
            for (TreePath path = getCurrentPath(); path != null; path = path.getParentPath()) {
                if (path.getLeaf() instanceof MethodTree) return trees.getElement(path);
                if (path.getLeaf() instanceof ClassTree)
                    for (Element e : trees.getElement(path).getEnclosedElements())
                        if (e.getKind() == ElementKind.CONSTRUCTOR) return e;
            }
            return null;
        }

        private void noteCall(Element called) {
            calls.computeIfAbsent(maker(), m -> new LinkedHashSet<>()).add(called);
        }

        @Override
        public Void visitMethodInvocation(MethodInvocationTree node, Void none) {
            ExecutableElement called = (ExecutableElement) element(node.getMethodSelect());
            Element owner = called.getEnclosingElement(), maker = maker();
            String name = called.getSimpleName().toString();
            if (own.contains(owner)) {
                noteCall(called);
                boolean fixed = called.getModifiers().contains(Modifier.PRIVATE) || called.getModifiers().contains(Modifier.STATIC)
                    || owner.getModifiers().contains(Modifier.FINAL) || owner.getKind() == ElementKind.RECORD;
                if (maker.getKind() == ElementKind.CONSTRUCTOR && called.getKind() == ElementKind.METHOD && !fixed)
                    rule(12, node, name + " from a constructor");
            } else if (called.getKind() != ElementKind.CONSTRUCTOR) {
                noteCall(called);
                checkLibrary(node, owner, called, name);
            }
            return super.visitMethodInvocation(node, none);
        }

        private void checkLibrary(MethodInvocationTree node, Element owner, ExecutableElement called, String name) {
            String from = owner instanceof TypeElement t ? t.getQualifiedName().toString() : "";
            boolean fine = NUMBERS.contains(from)
                ? called.getModifiers().contains(Modifier.STATIC) && !name.endsWith("Exact")
                : LIBRARY.getOrDefault(from, Set.of()).contains(name);
            if (node.getMethodSelect() instanceof MemberSelectTree s && type(s.getExpression()) instanceof ArrayType)
                fine = name.equals("clone");
            if (from.equals("java.util.Arrays"))
                fine &= type(node.getArguments().get(0)) instanceof ArrayType row && isNumber(row.getComponentType());
            if (!fine) rule(4, node, from + "." + name);
        }

        @Override
        public Void visitNewClass(NewClassTree node, Void none) {
            if (node.getClassBody() != null) rule(2, node, "a class without a name, or a constant with a body");
            TypeMirror made = type(node.getIdentifier());
            if (isOwn(made)) noteCall(element(node));
            else if (!Set.of("java.util.ArrayList", "java.lang.String", "java.lang.StringBuilder").contains(name(made)))
                rule(4, node, "new " + made);
            return super.visitNewClass(node, none);
        }

        @Override
        public Void visitMemberSelect(MemberSelectTree node, Void none) {
            Element e = element(node);
            boolean length = node.getIdentifier().contentEquals("length") && type(node.getExpression()) instanceof ArrayType;
            boolean face = getCurrentPath().getParentPath().getLeaf() instanceof VariableTree v && v.getName().contentEquals("LOST");
            if (e instanceof VariableElement && !length && !face && !own.contains(e.getEnclosingElement())) rule(4, node, "" + node);
            return super.visitMemberSelect(node, none);
        }

        @Override
        public Void visitLambdaExpression(LambdaExpressionTree node, Void none) { rule(2, node, "a lambda"); return null; }
        @Override
        public Void visitMemberReference(MemberReferenceTree node, Void none) { rule(2, node, "a method reference"); return null; }
        @Override
        public Void visitThrow(ThrowTree node, Void none) { rule(6, node, "throw"); return null; }
        @Override
        public Void visitTry(TryTree node, Void none) { rule(6, node, "try"); return null; }
        @Override
        public Void visitSynchronized(SynchronizedTree node, Void none) { rule(6, node, "synchronized"); return null; }
        @Override
        public Void visitAssert(AssertTree node, Void none) { rule(6, node, "assert"); return null; }

        @Override
        public Void visitBlock(BlockTree node, Void none) {
            if (node.isStatic()) rule(5, node, "a static initialiser");
            return super.visitBlock(node, none);
        }

        private void checkChange(Tree target) {
            if (target instanceof ArrayAccessTree cell && element(cell.getExpression()) instanceof VariableElement v
                && v.getModifiers().contains(Modifier.STATIC)) rule(5, target, v + " changes");
        }

        @Override
        public Void visitAssignment(AssignmentTree node, Void none) {
            checkChange(node.getVariable());
            return super.visitAssignment(node, none);
        }

        @Override
        public Void visitUnary(UnaryTree node, Void none) {
            checkChange(node.getExpression());
            return super.visitUnary(node, none);
        }

        @Override
        public Void visitCompoundAssignment(CompoundAssignmentTree node, Void none) {
            checkChange(node.getVariable());
            if (is(type(node.getVariable()), "java.lang.String")) rule(10, node, "a text and +=");
            return super.visitCompoundAssignment(node, none);
        }

        @Override
        public Void visitBinary(BinaryTree node, Void none) {
            if (node.getKind() == Tree.Kind.PLUS && is(type(node), "java.lang.String")) rule(10, node, "a text and +");
            if (node.getKind() == Tree.Kind.EQUAL_TO || node.getKind() == Tree.Kind.NOT_EQUAL_TO)
                for (String text : List.of("java.lang.String", "java.lang.Integer"))
                    if (is(type(node.getLeftOperand()), text) && is(type(node.getRightOperand()), text)) rule(6, node, "" + node);
            return super.visitBinary(node, none);
        }

        @Override
        public Void visitTypeCast(TypeCastTree node, Void none) {
            TypeMirror to = type(node.getType());
            if (!to.getKind().isPrimitive() && !isOwn(to)) rule(6, node, "a cast to " + to);
            return super.visitTypeCast(node, none);
        }

        @Override
        public Void visitSwitch(SwitchTree node, Void none) {
            TypeMirror on = type(((ParenthesizedTree) node.getExpression()).getExpression());
            if (!isNumber(on) && !isOwn(on)) rule(10, node, "switch on " + on);
            return super.visitSwitch(node, none);
        }

        @Override
        public Void visitLiteral(LiteralTree node, Void none) {
            if (node.getValue() instanceof String s && !s.chars().allMatch(c -> c >= 1 && c <= 127)) rule(4, node, "a sign");
            return super.visitLiteral(node, none);
        }

        private void checkLoop(Tree node, ExpressionTree condition) {
            ExpressionTree bare = condition;
            while (bare instanceof ParenthesizedTree p) bare = p.getExpression();
            if (bare == null || bare instanceof LiteralTree) rule(9, node, "a loop without an end");
        }

        @Override
        public Void visitForLoop(ForLoopTree node, Void none) {
            checkLoop(node, node.getCondition());
            if (node.getUpdate().isEmpty()) rule(9, node, "a loop that does not go on");
            return super.visitForLoop(node, none);
        }

        @Override
        public Void visitWhileLoop(WhileLoopTree node, Void none) {
            checkLoop(node, node.getCondition());
            return super.visitWhileLoop(node, none);
        }

        @Override
        public Void visitDoWhileLoop(DoWhileLoopTree node, Void none) {
            checkLoop(node, node.getCondition());
            return super.visitDoWhileLoop(node, none);
        }

        @Override
        public Void visitEnhancedForLoop(EnhancedForLoopTree node, Void none) {
            if (!(type(node.getExpression()) instanceof ArrayType)) rule(12, node, "a loop over a list, not by index");
            return super.visitEnhancedForLoop(node, none);
        }

        /** How many calls stand open at most; a call back into one that stands open is recursion, and is not counted. */
        private int depth(Element method, List<Element> open) {
            if (open.contains(method)) {
                List<Element> round = open.subList(open.indexOf(method), open.size());
                for (Element each : round)
                    if (!each.getModifiers().contains(Modifier.PRIVATE)
                        || (round.size() == 1 && !each.getModifiers().contains(Modifier.STATIC)))
                        wrong.add("rule 8: line 0: " + each + " calls itself");
                return 0;
            }
            open.add(method);
            int most = 0;
            for (Element called : calls.getOrDefault(method, Set.of())) most = Math.max(most, depth(called, open));
            open.remove(open.size() - 1);
            return 1 + most;
        }

        Set<String> told() {
            for (Element method : new ArrayList<>(calls.keySet())) {
                int depth = depth(method, new ArrayList<>());
                if (depth > DEPTH) wrong.add("rule 11: line 0: " + method + " goes " + depth + " calls deep");
            }
            return wrong;
        }
    }

    private static Set<String> told(String text) throws Exception {
        JavaCompiler compiler = ToolProvider.getSystemJavaCompiler();
        List<String> errors = new ArrayList<>();
        JavacTask task = (JavacTask) compiler.getTask(null, null, d -> {
            if (d.getKind() == javax.tools.Diagnostic.Kind.ERROR) errors.add("" + d);
        }, List.of("-proc:none"), null, List.<JavaFileObject>of(new Source(text)));
        CompilationUnitTree unit = task.parse().iterator().next();
        task.analyze();
        if (!errors.isEmpty()) throw new IllegalStateException("not read: " + errors);
        Rules rules = new Rules(unit, Trees.instance(task));
        rules.scan(unit, null);
        return rules.told();
    }

    public static void main(String[] args) throws Exception {
        int wrong = 0;
        for (String each : told(Files.readString(Path.of("src/main/java/SeenWords.java")))) {
            wrong++;
            System.out.println("language: " + each);
        }
        Map<String, Integer> seen = new HashMap<>();
        for (String[] broken : BROKEN) {
            String text = "public final class SeenWords { public SeenWords() { } " + broken[1] + " }";
            Set<String> told = told(text);
            if (told.stream().anyMatch(each -> each.startsWith("rule " + broken[0] + ":"))) {
                seen.merge(broken[0], 1, Integer::sum);
            } else {
                wrong++;
                System.out.println("language: rule " + broken[0] + " is not seen to be broken by " + broken[1] + ", but " + told);
            }
        }
        System.out.println(wrong == 0 ? "language: kept, and " + BROKEN.length + " samples are seen to break it" : "language: " + wrong + " wrong");
        if (wrong != 0) System.exit(1);
    }
}
