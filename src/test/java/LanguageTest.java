import com.sun.source.tree.AnnotationTree;
import com.sun.source.tree.ArrayAccessTree;
import com.sun.source.tree.BinaryTree;
import com.sun.source.tree.ClassTree;
import com.sun.source.tree.CompilationUnitTree;
import com.sun.source.tree.CompoundAssignmentTree;
import com.sun.source.tree.ConditionalExpressionTree;
import com.sun.source.tree.ExpressionTree;
import com.sun.source.tree.ForLoopTree;
import com.sun.source.tree.IdentifierTree;
import com.sun.source.tree.IfTree;
import com.sun.source.tree.ImportTree;
import com.sun.source.tree.LiteralTree;
import com.sun.source.tree.MemberSelectTree;
import com.sun.source.tree.MethodInvocationTree;
import com.sun.source.tree.MethodTree;
import com.sun.source.tree.NewArrayTree;
import com.sun.source.tree.NewClassTree;
import com.sun.source.tree.PrimitiveTypeTree;
import com.sun.source.tree.ThrowTree;
import com.sun.source.tree.Tree;
import com.sun.source.tree.TypeCastTree;
import com.sun.source.tree.VariableTree;
import com.sun.source.util.JavacTask;
import com.sun.source.util.SourcePositions;
import com.sun.source.util.TreePath;
import com.sun.source.util.TreePathScanner;
import com.sun.source.util.Trees;
import java.io.IOException;
import java.nio.file.Files;
import java.nio.file.Path;
import java.util.EnumSet;
import java.util.HashMap;
import java.util.HashSet;
import java.util.List;
import java.util.Map;
import java.util.Set;
import java.util.TreeSet;
import javax.lang.model.element.Element;
import javax.lang.model.element.ExecutableElement;
import javax.lang.model.element.Modifier;
import javax.lang.model.type.TypeKind;
import javax.lang.model.type.TypeMirror;
import javax.tools.JavaCompiler;
import javax.tools.StandardJavaFileManager;
import javax.tools.ToolProvider;

/**
 * src/main/java/FlickedCrates.java keeps to LANGUAGE.md, as far as its text tells it: rule by rule, by the compiler's own
 * tree of it. The class needs less than the rules allow (no try, no lists, no builders); what it needs alone is let pass.
 */
public final class LanguageTest {
    private static final Path SOURCE = Path.of("src/main/java/FlickedCrates.java");
    private static final int MOST_CLASSES = 12;
    private static final int MOST_FIELDS = 20;
    private static final int MOST_PARAMETERS = 7;
    private static final int MOST_LINES = 60;
    private static final int DEEPEST = 8;

    private static final Set<Tree.Kind> NEVER = EnumSet.of(Tree.Kind.LAMBDA_EXPRESSION, Tree.Kind.MEMBER_REFERENCE,
            Tree.Kind.SYNCHRONIZED, Tree.Kind.ASSERT, Tree.Kind.TRY, Tree.Kind.CATCH, Tree.Kind.ANNOTATION,
            Tree.Kind.SWITCH_EXPRESSION, Tree.Kind.INSTANCE_OF);
    private static final Set<String> THROWN = Set.of("IllegalStateException", "IllegalArgumentException",
            "IndexOutOfBoundsException", "ArithmeticException", "UnsupportedOperationException", "NoSuchElementException",
            "RuntimeException");
    private static final Set<String> LIBRARY = Set.of("Math.min", "Math.max", "Math.abs", "Integer.bitCount", "String.length",
            "String.charAt");

    private static CompilationUnitTree unit;
    private static Trees trees;
    private static SourcePositions positions;
    private static String text;

    private static final Set<String> faceNames = new HashSet<>();
    private static final Map<String, Set<String>> calls = new HashMap<>();
    private static final Map<String, Integer> depths = new HashMap<>();

    public static void main(String[] args) throws IOException {
        text = Files.readString(SOURCE);
        parse();
        signs();
        heads();
        new Rules().scan(unit, null);
        depthOfCalls();
        Checks.end();
    }

    private static void parse() throws IOException {
        JavaCompiler compiler = ToolProvider.getSystemJavaCompiler();
        StandardJavaFileManager files = compiler.getStandardFileManager(null, null, null);
        JavacTask task = (JavacTask) compiler.getTask(null, files, null, null, null, files.getJavaFileObjects(SOURCE));
        unit = task.parse().iterator().next();
        task.analyze();
        trees = Trees.instance(task);
        positions = trees.getSourcePositions();
    }

    private static void holds(int rule, String what, Tree at, boolean so) {
        long line = at == null ? 0 : unit.getLineMap().getLineNumber(positions.getStartPosition(unit, at));
        Checks.due("rule " + rule + ": " + what + ", line " + line, so ? 1 : 0, 1);
    }

    /** Rule 4: "constants, whose signs are 1 to 127"; the whole text is written so. */
    private static void signs() {
        for (int i = 0; i < text.length(); i++) {
            if (text.charAt(i) < 1 || text.charAt(i) > 127) {
                Checks.due("rule 4: sign at " + i, text.charAt(i), 127);
            }
        }
    }

    /** Rule 1: one public, final class without a package line; rule 4: no library but what is listed. */
    private static void heads() {
        Checks.due("rule 1: package line", unit.getPackage() == null ? 0 : 1, 0);
        Checks.due("rule 1: classes side by side", unit.getTypeDecls().size(), 1);
        for (ImportTree tree : unit.getImports()) {
            String name = tree.getQualifiedIdentifier().toString();
            holds(4, "import of " + name, tree, name.equals("java.util.NoSuchElementException") && !tree.isStatic());
        }
        ClassTree face = (ClassTree) unit.getTypeDecls().get(0);
        Checks.due("rule 1: its name", face.getSimpleName().contentEquals("FlickedCrates") ? 1 : 0, 1);
        Set<Modifier> modifiers = face.getModifiers().getFlags();
        holds(1, "public and final", face, modifiers.equals(EnumSet.of(Modifier.PUBLIC, Modifier.FINAL)));
        for (Tree member : face.getMembers()) {
            if (member instanceof MethodTree method && method.getModifiers().getFlags().contains(Modifier.PUBLIC)) {
                faceNames.add(method.getName().toString());
            }
        }
    }

    private static final class Rules extends TreePathScanner<Void, Void> {
        private int classes = 0;
        private String method = "";
        private boolean constructor = false;

        @Override
        public Void scan(Tree tree, Void unused) {
            if (tree != null) {
                holds(2, "no " + tree.getKind(), tree, !NEVER.contains(tree.getKind()));
            }
            return super.scan(tree, unused);
        }

        /** Rule 2: classes inside are static; rule 11: how many, and their fields; rule 5: no static block. */
        @Override
        public Void visitClass(ClassTree tree, Void unused) {
            classes++;
            holds(11, "classes", tree, classes <= MOST_CLASSES);
            Set<Modifier> flags = tree.getModifiers().getFlags();
            if (classes > 1) {
                holds(2, "a class inside is static", tree, flags.contains(Modifier.STATIC));
                holds(1, "and neither public nor protected", tree,
                        !flags.contains(Modifier.PUBLIC) && !flags.contains(Modifier.PROTECTED));
            }
            holds(6, "no exception of its own", tree, tree.getExtendsClause() == null);
            int fields = 0;
            for (Tree member : tree.getMembers()) {
                holds(5, "no block", member, member.getKind() != Tree.Kind.BLOCK);
                if (member instanceof VariableTree field) {
                    fields += field(field) ? 1 : 0;
                }
            }
            holds(11, "fields", tree, fields <= MOST_FIELDS);
            return super.visitClass(tree, unused);
        }

        /** Rule 5: static fields are final constants. Whether it is a field of each object. */
        private boolean field(VariableTree field) {
            Set<Modifier> flags = field.getModifiers().getFlags();
            if (classes == 1) {
                holds(1, "private but for NONE", field, flags.contains(Modifier.PRIVATE) || field.getName().contentEquals("NONE"));
            }
            if (flags.contains(Modifier.STATIC)) {
                holds(5, "static and final", field, flags.contains(Modifier.FINAL));
                holds(5, "a constant of int", field, field.getType().toString().equals("int"));
                return false;
            }
            return true;
        }

        /** Rule 11: parameters and lines; rule 1: no private method bears the name of a public one; rule 6: what is declared. */
        @Override
        public Void visitMethod(MethodTree tree, Void unused) {
            String was = method;
            method = nameOf(trees.getElement(getCurrentPath()));
            calls.computeIfAbsent(method, m -> new TreeSet<>());
            constructor = tree.getReturnType() == null;
            Set<Modifier> flags = tree.getModifiers().getFlags();
            holds(11, "parameters", tree, tree.getParameters().size() <= MOST_PARAMETERS);
            holds(11, "lines", tree, linesOf(tree) <= MOST_LINES);
            if (!flags.contains(Modifier.PUBLIC) && !constructor) {
                holds(1, tree.getName() + " is no name of the face", tree, !faceNames.contains(tree.getName().toString()));
            }
            if (method.startsWith("FlickedCrates.") && !flags.contains(Modifier.PUBLIC)) {
                holds(1, "private", tree, flags.contains(Modifier.PRIVATE));
            }
            holds(6, "no equals, hashCode, toString", tree,
                    !Set.of("equals", "hashCode", "toString").contains(tree.getName().toString()));
            super.visitMethod(tree, unused);
            method = was;
            return null;
        }

        private long linesOf(MethodTree tree) {
            long first = positions.getStartPosition(unit, tree);
            long end = positions.getEndPosition(unit, tree);
            return end < 0 ? 0 : unit.getLineMap().getLineNumber(end) - unit.getLineMap().getLineNumber(first) + 1;
        }

        /** Rule 6: "throw new E("a written text")", and none in a constructor. */
        @Override
        public Void visitThrow(ThrowTree tree, Void unused) {
            holds(6, "no throw in a constructor", tree, !constructor);
            if (tree.getExpression() instanceof NewClassTree made) {
                holds(6, "E is listed", tree, THROWN.contains(made.getIdentifier().toString()));
                holds(6, "a written text", tree, made.getArguments().stream().allMatch(a -> a instanceof LiteralTree));
            } else {
                holds(6, "throw new", tree, false);
            }
            return super.visitThrow(tree, unused);
        }

        /** Rule 10: no texts joined by +; rule 6: == and != never between two texts. */
        @Override
        public Void visitBinary(BinaryTree tree, Void unused) {
            boolean texts = isText(tree.getLeftOperand()) || isText(tree.getRightOperand());
            holds(10, "no " + tree.getKind() + " on a text", tree, !texts);
            if (tree.getKind() == Tree.Kind.DIVIDE || tree.getKind() == Tree.Kind.REMAINDER) {
                divides(tree);
            }
            return super.visitBinary(tree, unused);
        }

        /** Rule 7: "an index is looked at before it is used": the length stands in a condition round it. */
        @Override
        public Void visitArrayAccess(ArrayAccessTree tree, Void unused) {
            holds(7, tree + " is looked at", tree, isAsked(tree.getIndex() + " < " + tree.getExpression() + ".length"));
            return super.visitArrayAccess(tree, unused);
        }

        /** Rule 7: "a divisor before it divides". */
        private void divides(BinaryTree tree) {
            ExpressionTree divisor = tree.getRightOperand();
            holds(7, divisor + " is looked at", tree, divisor instanceof LiteralTree number && !number.getValue().equals(0)
                    || isAsked(divisor + " > 0") || isAsked(divisor + " != 0"));
        }

        @Override
        public Void visitCompoundAssignment(CompoundAssignmentTree tree, Void unused) {
            holds(7, "no division in an assignment", tree, tree.getKind() != Tree.Kind.DIVIDE_ASSIGNMENT
                    && tree.getKind() != Tree.Kind.REMAINDER_ASSIGNMENT);
            return super.visitCompoundAssignment(tree, unused);
        }

        private boolean isAsked(String question) {
            TreePath path = getCurrentPath();
            while (path != null && path.getLeaf().getKind() != Tree.Kind.METHOD) {
                if (conditionOf(path.getLeaf()).contains(question)) {
                    return true;
                }
                path = path.getParentPath();
            }
            return false;
        }

        private String conditionOf(Tree tree) {
            if (tree instanceof IfTree asks) {
                return asks.getCondition().toString();
            }
            if (tree instanceof ForLoopTree asks) {
                return String.valueOf(asks.getCondition());
            }
            return tree instanceof ConditionalExpressionTree asks ? asks.getCondition().toString() : "";
        }

        /** Rule 12: no row is made but in a constructor, or with the object. */
        @Override
        public Void visitNewArray(NewArrayTree tree, Void unused) {
            holds(12, "rows are made with the object alone", tree, method.isEmpty() || constructor);
            return super.visitNewArray(tree, unused);
        }

        private boolean isText(ExpressionTree tree) {
            TypeMirror type = trees.getTypeMirror(new TreePath(getCurrentPath(), tree));
            return type != null && type.getKind() == TypeKind.DECLARED && type.toString().equals("java.lang.String");
        }

        /** Rule 4: of the library what is listed, alone. */
        @Override
        public Void visitMethodInvocation(MethodInvocationTree tree, Void unused) {
            Element called = trees.getElement(getCurrentPath());
            String name = nameOf(called);
            if (called.getEnclosingElement().toString().startsWith("FlickedCrates")) {
                calls.computeIfAbsent(method, m -> new TreeSet<>()).add(name);
            } else if (!name.equals("Object.<init>")) {
                holds(4, name + " is listed", tree, LIBRARY.contains(name));
            }
            return super.visitMethodInvocation(tree, unused);
        }

        /** Rule 6: "casts among your own classes .. only behind the test": the class casts numbers alone. */
        @Override
        public Void visitTypeCast(TypeCastTree tree, Void unused) {
            holds(6, "a cast of a number", tree, tree.getType() instanceof PrimitiveTypeTree);
            return super.visitTypeCast(tree, unused);
        }

        @Override
        public Void visitNewClass(NewClassTree tree, Void unused) {
            Element made = trees.getElement(getCurrentPath());
            holds(2, "no class without a name", tree, tree.getClassBody() == null);
            if (made.getEnclosingElement().toString().startsWith("FlickedCrates")) {
                calls.computeIfAbsent(method, m -> new TreeSet<>()).add(nameOf(made));
                holds(12, "objects are made with the object alone", tree, method.isEmpty() || constructor);
            }
            return super.visitNewClass(tree, unused);
        }

        /** Rules 4 and 13: no name of another class of the library stands anywhere. */
        @Override
        public Void visitIdentifier(IdentifierTree tree, Void unused) {
            Element element = trees.getElement(getCurrentPath());
            if (element != null && (element.getKind().isClass() || element.getKind().isInterface())) {
                String name = element.toString();
                boolean listed = name.startsWith("FlickedCrates") || Set.of("java.lang.String", "java.lang.Math",
                        "java.lang.Integer").contains(name) || THROWN.contains(tree.getName().toString());
                holds(4, name + " is listed", tree, listed);
            }
            return super.visitIdentifier(tree, unused);
        }

        @Override
        public Void visitMemberSelect(MemberSelectTree tree, Void unused) {
            boolean constant = tree.getExpression().toString().equals("Integer") && tree.getIdentifier().toString().contains("_");
            holds(4, "no constants of the library", tree, !constant);
            return super.visitMemberSelect(tree, unused);
        }

        @Override
        public Void visitAnnotation(AnnotationTree tree, Void unused) {
            holds(4, "no annotations", tree, false);
            return super.visitAnnotation(tree, unused);
        }
    }

    private static String nameOf(Element element) {
        Element in = element.getEnclosingElement();
        String name = in.getSimpleName() + "." + element.getSimpleName();
        // Two of one name and as many numbers would be told as one: then the deeper one counts.
        return in.toString().startsWith("FlickedCrates") ? name + "/" + ((ExecutableElement) element).getParameters().size() : name;
    }

    /** Rule 11: "calls that are no recursion go at most eight deep"; rule 8: the class needs no recursion. */
    private static void depthOfCalls() {
        for (String name : List.copyOf(calls.keySet())) {
            int depth = depthOf(name, 0);
            Checks.due("rule 11: depth of calls from " + name + " is " + depth, depth <= DEEPEST ? 1 : 0, 1);
        }
        Checks.due("the deepest call is known", depths.getOrDefault("FlickedCrates.day/1", 0) > 3 ? 1 : 0, 1);
    }

    private static int depthOf(String name, int above) {
        if (above > 50) {
            Checks.due("rule 8: recursion of " + name, 1, 0);
            return above;
        }
        Integer known = depths.get(name);
        if (known != null) {
            return known;
        }
        int deepest = 0;
        for (String called : calls.getOrDefault(name, Set.of())) {
            deepest = Math.max(deepest, depthOf(called, above + 1));
        }
        depths.put(name, deepest + 1);
        return deepest + 1;
    }
}
