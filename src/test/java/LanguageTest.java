import com.sun.source.tree.BinaryTree;
import com.sun.source.tree.BlockTree;
import com.sun.source.tree.ClassTree;
import com.sun.source.tree.CompilationUnitTree;
import com.sun.source.tree.CompoundAssignmentTree;
import com.sun.source.tree.DoWhileLoopTree;
import com.sun.source.tree.ExpressionTree;
import com.sun.source.tree.ForLoopTree;
import com.sun.source.tree.IdentifierTree;
import com.sun.source.tree.LiteralTree;
import com.sun.source.tree.MemberSelectTree;
import com.sun.source.tree.MethodInvocationTree;
import com.sun.source.tree.MethodTree;
import com.sun.source.tree.NewArrayTree;
import com.sun.source.tree.NewClassTree;
import com.sun.source.tree.ParenthesizedTree;
import com.sun.source.tree.Tree;
import com.sun.source.tree.TypeCastTree;
import com.sun.source.tree.VariableTree;
import com.sun.source.tree.WhileLoopTree;
import com.sun.source.util.JavacTask;
import com.sun.source.util.TreePath;
import com.sun.source.util.TreePathScanner;
import com.sun.source.util.TreeScanner;
import com.sun.source.util.Trees;
import java.io.IOException;
import java.net.URI;
import java.nio.file.Files;
import java.nio.file.Path;
import java.util.ArrayList;
import java.util.HashSet;
import java.util.List;
import java.util.Map;
import java.util.Set;
import java.util.TreeMap;
import java.util.TreeSet;
import javax.lang.model.element.Element;
import javax.lang.model.element.ElementKind;
import javax.lang.model.element.Modifier;
import javax.lang.model.element.TypeElement;
import javax.lang.model.element.VariableElement;
import javax.lang.model.type.ArrayType;
import javax.lang.model.type.DeclaredType;
import javax.lang.model.type.TypeKind;
import javax.lang.model.type.TypeMirror;
import javax.tools.JavaFileObject;
import javax.tools.SimpleJavaFileObject;
import javax.tools.ToolProvider;

/**
 * The class keeps to ../shared/LANGUAGE.md, read from its trees, not by a search. Where the class does without what
 * a rule would allow (recursion, casts of objects, lists, objects made by a call), the test wants it to stay so.
 * Short sources that break one rule each show that the test would notice.
 */
public final class LanguageTest {
    private static final Path SOURCE = Path.of("src/main/java/ClinchClock.java");
    private static final int MOST_PARAMETERS = 7;
    private static final int MOST_LINES = 60;
    private static final int MOST_DEPTH = 8;
    private static final int MOST_CLASSES = 12;
    private static final int MOST_FIELDS = 20;
    private static final Set<String> LIBRARY = Set.of("java.lang.String.length", "java.lang.String.charAt",
        "java.lang.Math.min", "java.lang.Math.max", "java.lang.System.arraycopy", "java.lang.Object.<init>");
    private static final Set<TypeKind> NUMBERS = Set.of(TypeKind.INT, TypeKind.LONG, TypeKind.SHORT, TypeKind.BYTE,
        TypeKind.CHAR);
    private static final Set<TypeKind> CONSTANTS = Set.of(TypeKind.INT, TypeKind.LONG, TypeKind.BOOLEAN, TypeKind.CHAR);

    // What can't stand at all, with its rule.
    private static final Map<Tree.Kind, Integer> BARRED = Map.of(Tree.Kind.LAMBDA_EXPRESSION, 2,
        Tree.Kind.MEMBER_REFERENCE, 2, Tree.Kind.IMPORT, 4, Tree.Kind.ANNOTATION, 4, Tree.Kind.THROW, 6,
        Tree.Kind.TRY, 6, Tree.Kind.CATCH, 6, Tree.Kind.SYNCHRONIZED, 6, Tree.Kind.ASSERT, 6);

    // The rule's number, and a class body that breaks it.
    private static final String[][] BREACHES = {
        {"1", "public int a() { return 0; } private int a(int n) { return n; }"},
        {"1", "int a() { return 0; }"},
        {"1", "protected int a;"},
        {"1", "public static final class In { }"},
        {"2", "private final class In { }"},
        {"2", "public int a() { class In { } return 0; }"},
        {"2", "public Object a() { return new Object() { }; }"},
        {"2", "interface In { int a(int n); } public int a() { In i = n -> n; return i.a(1); }"},
        {"2", "interface In { int a(int n); } public int a() { In i = Math::abs; return i.a(1); }"},
        {"3", "private int[][][] a;"},
        {"3", "private String[][] a;"},
        {"3", "private Object a;"},
        {"3", "private double a;"},
        {"3", "public int a() { var n = 1; return n; }"},
        {"4", "import java.util.Random;", "public int a() { return 0; }"},
        {"4", "public int a() { return \"a\".hashCode(); }"},
        {"4", "public int a() { return Integer.MAX_VALUE; }"},
        {"4", "@Deprecated public int a() { return 0; }"},
        {"4", "public int a() { return Math.addExact(1, 2); }"},
        {"4", "public int a() { return \"\u00e9\".length(); }"},
        {"4", "public char a() { return '\u00e9'; }"},
        {"5", "private static int a = 1;"},
        {"5", "private static final StringBuilder A = null;"},
        {"5", "static { int a = 1; }"},
        {"6", "public int a() { throw new IllegalArgumentException(); }"},
        {"6", "public int a() { try { return 0; } finally { return 1; } }"},
        {"6", "public int a() { synchronized (this) { return 0; } }"},
        {"6", "public int a() { assert true; return 0; }"},
        {"6", "public boolean a(String s) { return s == \"a\"; }"},
        {"6", "public String a(Object s) { return (String) s; }"},
        {"7", "public int a(int n) { return 1 / n; }"},
        {"7", "public int a(int n) { int m = 1; m %= n; return m; }"},
        {"8", "public int a(int n) { return n == 0 ? 0 : b(n - 1); } private int b(int n) { return a(n); }"},
        {"9", "public int a() { while (true) { } }"},
        {"9", "public int a() { for (;;) { } }"},
        {"9", "public int a() { do { } while (true); }"},
        {"10", "public String a(int n) { return \"a\" + n; }"},
        {"11", "public int a(int b, int c, int d, int e, int f, int g, int h, int i) { return b; }"},
        {"11", "public int a() {" + "\n".repeat(MOST_LINES) + "return 0; }"},
        {"11", chain(MOST_DEPTH + 1)},
        {"11", many("private static final class In", " { }\n", MOST_CLASSES + 1)},
        {"11", many("private int a", ";\n", MOST_FIELDS + 1)},
        {"12", "public int[] a() { return new int[1]; }"},
        {"12", "private static final class In { } private In a() { return new In(); }"},
    };

    private static int wrong = 0;

    private LanguageTest() {
    }

    private static void check(boolean fine, String what) {
        if (!fine) {
            wrong++;
            System.out.println(what);
        }
    }

    public static void main(String[] args) throws IOException {
        for (String breach : breachesIn(Files.readString(SOURCE))) {
            check(false, "rule " + breach);
        }
        for (String[] broken : BREACHES) {
            String source = (broken.length == 3 ? broken[1] : "") + "public final class ClinchClock { "
                + broken[broken.length - 1] + " }";
            boolean seen = breachesIn(source).stream().anyMatch(b -> b.startsWith(broken[0] + ":"));
            check(seen, "a breach of rule " + broken[0] + " is not noticed: " + source);
        }
        check(breachesIn("public final class ClinchClock { " + chain(MOST_DEPTH) + " }").isEmpty(),
            "eight calls deep are taken for a breach");
        System.out.println(wrong == 0 ? "the source keeps the rules" : wrong + " rules are broken");
        if (wrong != 0) {
            System.exit(1);
        }
    }

    private static String chain(int depth) {
        StringBuilder body = new StringBuilder("public int a1() { return a2(); }");
        for (int i = 2; i < depth; i++) {
            body.append("private int a" + i + "() { return a" + (i + 1) + "(); }\n");
        }
        return body + "private int a" + depth + "() { return 0; }";
    }

    private static String many(String ahead, String behind, int n) {
        StringBuilder body = new StringBuilder();
        for (int i = 0; i < n; i++) {
            body.append(ahead + i + behind);
        }
        return body.toString();
    }

    /** The breaches of a source, each with its rule's number ahead. */
    private static Set<String> breachesIn(String source) throws IOException {
        JavaFileObject file = new SimpleJavaFileObject(URI.create("string:///ClinchClock.java"),
            JavaFileObject.Kind.SOURCE) {
            @Override
            public CharSequence getCharContent(boolean ignored) {
                return source;
            }
        };
        JavacTask task = (JavacTask) ToolProvider.getSystemJavaCompiler()
            .getTask(null, null, d -> { }, List.of("-proc:none"), null, List.of(file));
        CompilationUnitTree unit = task.parse().iterator().next();
        task.analyze();
        Reader reader = new Reader(Trees.instance(task), unit, source);
        reader.scan(unit, null);
        reader.lookAtCalls();
        return reader.breaches;
    }

    private static final class Reader extends TreePathScanner<Void, Void> {
        final Set<String> breaches = new TreeSet<>();
        private final Trees trees;
        private final CompilationUnitTree unit;
        private final String source;
        private final Set<String> publicNames = new HashSet<>();
        private final Map<String, Set<String>> calls = new TreeMap<>();
        private int classes = 0;
        private MethodTree method = null;

        Reader(Trees trees, CompilationUnitTree unit, String source) {
            this.trees = trees;
            this.unit = unit;
            this.source = source;
        }

        private void breach(int rule, String what, Tree tree) {
            long line = unit.getLineMap().getLineNumber(trees.getSourcePositions().getStartPosition(unit, tree));
            breaches.add(rule + ": " + what + " (line " + line + ")");
        }

        private void want(boolean fine, int rule, String what, Tree tree) {
            if (!fine) {
                breach(rule, what, tree);
            }
        }

        private Element here() {
            return trees.getElement(getCurrentPath());
        }

        private TypeMirror typeOf(Tree tree) {
            return trees.getTypeMirror(TreePath.getPath(unit, tree));
        }

        private static boolean isOwn(Element element) {
            Element outer = element;
            while (outer.getEnclosingElement() != null && outer.getEnclosingElement().getKind() != ElementKind.PACKAGE) {
                outer = outer.getEnclosingElement();
            }
            return outer.getSimpleName().contentEquals("ClinchClock");
        }

        private static boolean isOutermost(Element type) {
            return type != null && type.getSimpleName().contentEquals("ClinchClock");
        }

        @Override
        public Void scan(Tree tree, Void v) {
            if (tree != null && BARRED.containsKey(tree.getKind())) {
                breach(BARRED.get(tree.getKind()), "it has " + tree.getKind(), tree);
            }
            return super.scan(tree, v);
        }

        // ---- classes and members

        @Override
        public Void visitCompilationUnit(CompilationUnitTree tree, Void v) {
            want(tree.getPackageName() == null, 1, "a package", tree);
            want(tree.getTypeDecls().size() == 1, 1, "more than one class in the file", tree);
            return super.visitCompilationUnit(tree, v);
        }

        @Override
        public Void visitClass(ClassTree tree, Void v) {
            TypeElement type = (TypeElement) here();
            if (isOutermost(type)) {
                notePublicNames(type);
            } else {
                lookAtInside(type, tree);
            }
            long fields = type.getEnclosedElements().stream()
                .filter(e -> e.getKind() == ElementKind.FIELD && !e.getModifiers().contains(Modifier.STATIC)).count();
            want(fields <= MOST_FIELDS, 11, fields + " fields", tree);
            return super.visitClass(tree, v);
        }

        private void notePublicNames(TypeElement type) {
            for (Element member : type.getEnclosedElements()) {
                if (member.getKind() == ElementKind.METHOD && member.getModifiers().contains(Modifier.PUBLIC)) {
                    publicNames.add(member.getSimpleName().toString());
                }
            }
        }

        private void lookAtInside(TypeElement type, ClassTree tree) {
            classes++;
            want(classes <= MOST_CLASSES, 11, "more than " + MOST_CLASSES + " classes", tree);
            boolean member = isOutermost(type.getEnclosingElement());
            want(member && type.getModifiers().contains(Modifier.STATIC), 2, "no static member class", tree);
            boolean shown = type.getModifiers().contains(Modifier.PUBLIC)
                || type.getModifiers().contains(Modifier.PROTECTED);
            want(!shown, 1, "a public class inside", tree);
        }

        @Override
        public Void visitMethod(MethodTree tree, Void v) {
            Element element = here();
            Set<Modifier> modifiers = element.getModifiers();
            boolean isPublic = modifiers.contains(Modifier.PUBLIC);
            boolean ofFace = isOutermost(element.getEnclosingElement());
            want(!ofFace || isPublic || modifiers.contains(Modifier.PRIVATE), 1, "neither public nor private", tree);
            boolean twin = publicNames.contains(tree.getName().toString()) && !(ofFace && isPublic);
            want(!twin || element.getEnclosingElement().getKind() == ElementKind.INTERFACE, 1,
                "a name of the face: " + tree.getName(), tree);
            want(tree.getParameters().size() <= MOST_PARAMETERS, 11, "many parameters", tree);
            want(linesOf(tree) <= MOST_LINES, 11, "a long method", tree);
            calls.put(nameOf(element), new TreeSet<>());
            MethodTree outer = method;
            method = tree;
            super.visitMethod(tree, v);
            method = outer;
            return null;
        }

        private long linesOf(Tree tree) {
            long first = trees.getSourcePositions().getStartPosition(unit, tree);
            long last = trees.getSourcePositions().getEndPosition(unit, tree);
            return unit.getLineMap().getLineNumber(last) - unit.getLineMap().getLineNumber(first) + 1;
        }

        @Override
        public Void visitVariable(VariableTree tree, Void v) {
            Element element = here();
            TypeMirror type = element.asType();
            if (element.getKind() == ElementKind.FIELD) {
                lookAtField(element, type, tree);
            }
            want(isAllowed(type), 3, "type " + type, tree);
            want(!textOf(tree).matches("(?s)(final\\s+)?var\\s.*"), 3, "a type that is not told", tree);
            return super.visitVariable(tree, v);
        }

        private String textOf(Tree tree) {
            int first = (int) trees.getSourcePositions().getStartPosition(unit, tree);
            int last = (int) trees.getSourcePositions().getEndPosition(unit, tree);
            return source.substring(first, last);
        }

        private void lookAtField(Element field, TypeMirror type, Tree tree) {
            Set<Modifier> modifiers = field.getModifiers();
            boolean isConstant = field.getSimpleName().contentEquals("NONE") && modifiers.contains(Modifier.PUBLIC);
            want(!isOutermost(field.getEnclosingElement()) || isConstant || modifiers.contains(Modifier.PRIVATE), 1,
                "a field that is not private", tree);
            if (modifiers.contains(Modifier.STATIC)) {
                boolean fine = CONSTANTS.contains(type.getKind()) || type.toString().equals("java.lang.String");
                want(fine && modifiers.contains(Modifier.FINAL), 5, "a static field that is no constant", tree);
            }
        }

        private static boolean isAllowed(TypeMirror type) {
            if (type.getKind() == TypeKind.ARRAY) {
                TypeMirror part = ((ArrayType) type).getComponentType();
                boolean two = part.getKind() == TypeKind.ARRAY;
                return two ? NUMBERS.contains(((ArrayType) part).getComponentType().getKind()) : isAllowed(part);
            }
            if (type.getKind() == TypeKind.DECLARED) {
                return type.toString().equals("java.lang.String") || isOwn(((DeclaredType) type).asElement());
            }
            return NUMBERS.contains(type.getKind()) || type.getKind() == TypeKind.BOOLEAN;
        }

        @Override
        public Void visitBlock(BlockTree tree, Void v) {
            want(!tree.isStatic(), 5, "a static block", tree);
            return super.visitBlock(tree, v);
        }

        // ---- calls and new objects

        @Override
        public Void visitMethodInvocation(MethodInvocationTree tree, Void v) {
            noteCall(here(), tree);
            return super.visitMethodInvocation(tree, v);
        }

        private void noteCall(Element called, Tree tree) {
            if (called == null || !isOwn(called)) {
                String name = called == null ? "?" : called.getEnclosingElement() + "." + called.getSimpleName();
                want(LIBRARY.contains(name), 4, "the library's " + name, tree);
            }
            if (called != null && method != null) {
                calls.get(nameOf(trees.getElement(TreePath.getPath(unit, method)))).add(nameOf(called));
            }
        }

        @Override
        public Void visitMemberSelect(MemberSelectTree tree, Void v) {
            Element named = here();
            boolean isField = named != null && named.getKind() == ElementKind.FIELD;
            boolean isLength = tree.getIdentifier().contentEquals("length");
            want(!isField || isLength || isOwn(named), 4, "the library's " + tree, tree);
            return super.visitMemberSelect(tree, v);
        }

        @Override
        public Void visitNewClass(NewClassTree tree, Void v) {
            want(tree.getClassBody() == null, 2, "an anonymous class", tree);
            Element made = here();
            want(made != null && isOwn(made), 4, "a new object of another's class", tree);
            want(method == null, 12, "an object made by a call", tree);
            return super.visitNewClass(tree, v);
        }

        @Override
        public Void visitNewArray(NewArrayTree tree, Void v) {
            want(method == null, 12, "a row made by a call", tree);
            return super.visitNewArray(tree, v);
        }

        private static String nameOf(Element called) {
            return called.getEnclosingElement().getSimpleName() + "." + called;
        }

        void lookAtCalls() {
            for (String first : calls.keySet()) {
                goDown(List.of(first));
            }
        }

        private void goDown(List<String> path) {
            String last = path.get(path.size() - 1);
            if (path.indexOf(last) < path.size() - 1) {
                breaches.add("8: a recursion, " + path);
                return;
            }
            if (path.size() > MOST_DEPTH) {
                breaches.add("11: calls too deep, " + path);
                return;
            }
            for (String next : calls.getOrDefault(last, Set.of())) {
                List<String> longer = new ArrayList<>(path);
                longer.add(next);
                goDown(longer);
            }
        }

        // ---- statements

        @Override
        public Void visitWhileLoop(WhileLoopTree tree, Void v) {
            lookAtCondition(tree.getCondition(), tree);
            return super.visitWhileLoop(tree, v);
        }

        @Override
        public Void visitDoWhileLoop(DoWhileLoopTree tree, Void v) {
            lookAtCondition(tree.getCondition(), tree);
            return super.visitDoWhileLoop(tree, v);
        }

        @Override
        public Void visitForLoop(ForLoopTree tree, Void v) {
            lookAtCondition(tree.getCondition(), tree);
            return super.visitForLoop(tree, v);
        }

        private void lookAtCondition(ExpressionTree condition, Tree loop) {
            ExpressionTree inside = condition;
            while (inside instanceof ParenthesizedTree p) {
                inside = p.getExpression();
            }
            want(inside instanceof BinaryTree, 9, "a loop whose end can't be seen", loop);
        }

        // ---- expressions

        @Override
        public Void visitBinary(BinaryTree tree, Void v) {
            switch (tree.getKind()) {
                case PLUS -> want(!isText(typeOf(tree)), 10, "texts joined by +", tree);
                case DIVIDE, REMAINDER -> lookAtDivisor(tree.getRightOperand(), tree);
                case EQUAL_TO, NOT_EQUAL_TO -> want(!isText(typeOf(tree.getLeftOperand()))
                    || !isText(typeOf(tree.getRightOperand())), 6, "two texts compared by ==", tree);
                default -> { }
            }
            return super.visitBinary(tree, v);
        }

        @Override
        public Void visitCompoundAssignment(CompoundAssignmentTree tree, Void v) {
            switch (tree.getKind()) {
                case PLUS_ASSIGNMENT -> want(!isText(typeOf(tree)), 10, "texts joined by +=", tree);
                case DIVIDE_ASSIGNMENT, REMAINDER_ASSIGNMENT -> lookAtDivisor(tree.getExpression(), tree);
                default -> { }
            }
            return super.visitCompoundAssignment(tree, v);
        }

        private static boolean isText(TypeMirror type) {
            return type != null && type.toString().equals("java.lang.String");
        }

        /** A divisor is a constant, or the method compares it with another number. */
        private void lookAtDivisor(ExpressionTree divisor, Tree division) {
            Element element = trees.getElement(TreePath.getPath(unit, divisor));
            boolean constant = divisor instanceof LiteralTree
                || element instanceof VariableElement e && e.getConstantValue() != null;
            want(constant || method != null && compares(method, divisor.toString()), 7,
                "a divisor that is not looked at: " + divisor, division);
        }

        private static boolean compares(MethodTree where, String name) {
            boolean[] found = {false};
            new TreeScanner<Void, Void>() {
                @Override
                public Void visitBinary(BinaryTree tree, Void v) {
                    boolean compares = switch (tree.getKind()) {
                        case LESS_THAN, LESS_THAN_EQUAL, GREATER_THAN, GREATER_THAN_EQUAL, EQUAL_TO, NOT_EQUAL_TO -> true;
                        default -> false;
                    };
                    boolean named = tree.getLeftOperand() instanceof IdentifierTree i && i.getName().contentEquals(name);
                    found[0] |= compares && named;
                    return super.visitBinary(tree, v);
                }
            }.scan(where, null);
            return found[0];
        }

        @Override
        public Void visitTypeCast(TypeCastTree tree, Void v) {
            want(typeOf(tree.getType()).getKind().isPrimitive(), 6, "a cast of an object", tree);
            return super.visitTypeCast(tree, v);
        }

        @Override
        public Void visitLiteral(LiteralTree tree, Void v) {
            boolean isSigns = tree.getValue() instanceof String || tree.getValue() instanceof Character;
            want(!isSigns || tree.getValue().toString().chars().allMatch(c -> c >= 1 && c <= 127), 4,
                "a sign beyond 127", tree);
            return super.visitLiteral(tree, v);
        }
    }
}
