import com.sun.source.tree.AssignmentTree;
import com.sun.source.tree.BinaryTree;
import com.sun.source.tree.BlockTree;
import com.sun.source.tree.ClassTree;
import com.sun.source.tree.CompilationUnitTree;
import com.sun.source.tree.CompoundAssignmentTree;
import com.sun.source.tree.DoWhileLoopTree;
import com.sun.source.tree.ExpressionTree;
import com.sun.source.tree.ForLoopTree;
import com.sun.source.tree.LambdaExpressionTree;
import com.sun.source.tree.LiteralTree;
import com.sun.source.tree.MemberReferenceTree;
import com.sun.source.tree.MethodInvocationTree;
import com.sun.source.tree.MethodTree;
import com.sun.source.tree.NewArrayTree;
import com.sun.source.tree.NewClassTree;
import com.sun.source.tree.ThrowTree;
import com.sun.source.tree.Tree;
import com.sun.source.tree.TryTree;
import com.sun.source.tree.TypeCastTree;
import com.sun.source.tree.VariableTree;
import com.sun.source.tree.WhileLoopTree;
import com.sun.source.util.JavacTask;
import com.sun.source.util.TreePathScanner;
import com.sun.source.util.Trees;
import java.io.IOException;
import java.nio.file.Path;
import java.util.ArrayList;
import java.util.HashSet;
import java.util.List;
import java.util.Map;
import java.util.Set;
import java.util.TreeMap;
import java.util.TreeSet;
import javax.lang.model.element.Element;
import javax.lang.model.element.ElementKind;
import javax.lang.model.element.Modifier;
import javax.lang.model.type.TypeMirror;
import javax.tools.JavaCompiler;
import javax.tools.StandardJavaFileManager;
import javax.tools.ToolProvider;

/** The rules of LANGUAGE.md that the compiler's own tree of the class can hold, by their numbers. */
final class RulesTest {
    private static final Path SOURCE = Path.of("src/main/java/BowingRow.java");
    private static final int MOST_DEEP = 8;
    private static final int MOST_FIELDS = 20;
    private static final int MOST_CLASSES = 12;
    private static final int MOST_LINES = 60;
    private static final int MOST_PARAMETERS = 7;

    // rule 4, of what stands there only what the class uses: a new call is held against the rule by hand first
    private static final Set<String> LIBRARY = Set.of("java.util.Arrays.fill", "java.lang.System.arraycopy",
        "java.lang.Math.max", "java.lang.Math.min", "java.lang.Integer.bitCount", "java.lang.String.length",
        "java.lang.String.charAt");
    private static final Set<String> THROWN = Set.of("IllegalStateException", "IllegalArgumentException",
        "IndexOutOfBoundsException", "NoSuchElementException");
    // rule 3, of the types that stand there those that the class uses, beside its own classes
    private static final Set<String> TYPES = Set.of("int", "byte", "char", "boolean", "int[]", "byte[]",
        "java.lang.String");
    private static final Set<String> CONSTANT_TYPES = Set.of("int", "int[]");

    private final Trees trees;
    private final CompilationUnitTree unit;
    private final Map<String, Set<String>> calls = new TreeMap<>();
    private final Set<String> face = new TreeSet<>();
    private final Set<String> hidden = new TreeSet<>();
    private final List<String> made = new ArrayList<>();
    private int classes;

    private RulesTest(Trees trees, CompilationUnitTree unit) {
        this.trees = trees;
        this.unit = unit;
    }

    public static void main(String[] args) throws IOException {
        JavaCompiler compiler = ToolProvider.getSystemJavaCompiler();
        try (StandardJavaFileManager files = compiler.getStandardFileManager(null, null, null)) {
            JavacTask task = (JavacTask) compiler.getTask(null, files, null, null, null,
                files.getJavaFileObjects(SOURCE));
            CompilationUnitTree unit = task.parse().iterator().next();
            task.analyze();
            RulesTest test = new RulesTest(Trees.instance(task), unit);
            test.new Walk().scan(unit, null);
            test.afterAll();
        }
        Check.end();
    }

    private void holds(int rule, String what, boolean good) {
        Check.same("rule " + rule + ": " + what, 1, good ? 1 : 0);
    }

    private long line(Tree tree) {
        return unit.getLineMap().getLineNumber(trees.getSourcePositions().getStartPosition(unit, tree));
    }

    private long lastLine(Tree tree) {
        return unit.getLineMap().getLineNumber(trees.getSourcePositions().getEndPosition(unit, tree));
    }

    private static boolean isOwn(Element element) {
        Element at = element;
        while (at.getEnclosingElement() != null && at.getEnclosingElement().getKind() != ElementKind.PACKAGE) {
            at = at.getEnclosingElement();
        }
        return at.getSimpleName().contentEquals("BowingRow");
    }

    private static String name(Element method) {
        return method.getEnclosingElement().getSimpleName() + "." + method.getSimpleName();
    }

    private void afterAll() {
        for (String name : hidden) {
            holds(1, "a method inside bears the public name " + name, !face.contains("BowingRow." + name));
        }
        holds(1, "the face was seen", face.size() == 31);
        holds(11, classes + " classes", classes <= MOST_CLASSES);
        for (String method : face) {
            int deep = deep(method, new HashSet<>());
            holds(11, method + " goes " + deep + " deep", deep <= MOST_DEEP);
        }
        // all else is made in constructors; what later calls make is counted in NOTES.md
        Check.same("rule 12: made by methods", "[WayRows.work int[]]", made.toString());
    }

    /** How many methods can stand open at once, each counted once, as recursion has a bound of its own. */
    private int deep(String method, Set<String> open) {
        open.add(method);
        int most = 0;
        for (String called : calls.getOrDefault(method, Set.of())) {
            if (!open.contains(called)) {
                most = Math.max(most, deep(called, open));
            }
        }
        open.remove(method);
        return most + 1;
    }

    private final class Walk extends TreePathScanner<Void, Void> {
        private String method = "";
        private boolean constructing;
        private int loops;

        @Override
        public Void visitClass(ClassTree tree, Void none) {
            classes++;
            String name = tree.getSimpleName().toString();
            Set<Modifier> flags = tree.getModifiers().getFlags();
            if (!name.equals("BowingRow")) {
                boolean inside = getCurrentPath().getParentPath().getLeaf() instanceof ClassTree;
                holds(2, name + " is a member", inside);
                holds(1, name + " is private", flags.contains(Modifier.PRIVATE));
                holds(1, name + " is static", flags.contains(Modifier.STATIC) || tree.getKind() == Tree.Kind.ENUM);
            }
            int fields = 0;
            for (Tree member : tree.getMembers()) {
                boolean isField = member instanceof VariableTree;
                if (isField && !((VariableTree) member).getModifiers().getFlags().contains(Modifier.STATIC)) {
                    fields++;
                }
                holds(5, "an initialiser block in " + name, !(member instanceof BlockTree));
            }
            holds(11, name + " has " + fields + " fields", fields <= MOST_FIELDS);
            return super.visitClass(tree, none);
        }

        @Override
        public Void visitMethod(MethodTree tree, Void none) {
            Element element = trees.getElement(getCurrentPath());
            String before = method;
            method = name(element);
            constructing = element.getKind() == ElementKind.CONSTRUCTOR;
            calls.computeIfAbsent(method, any -> new TreeSet<>());
            if (element.getModifiers().contains(Modifier.PUBLIC) && !constructing) {
                face.add(method);
            } else {
                hidden.add(tree.getName().toString());
            }
            holds(11, method + " has too many parameters", tree.getParameters().size() <= MOST_PARAMETERS);
            holds(11, method + " is too long", lastLine(tree) - line(tree) < MOST_LINES);
            super.visitMethod(tree, none);
            method = before;
            constructing = false;
            return null;
        }

        @Override
        public Void visitVariable(VariableTree tree, Void none) {
            Element element = trees.getElement(getCurrentPath());
            String type = element.asType().toString();
            String at = "line " + line(tree);
            boolean own = type.startsWith("BowingRow.") && !type.endsWith("[][]");
            holds(3, at + " has the type " + type, own || TYPES.contains(type));
            Set<Modifier> flags = element.getModifiers();
            if (flags.contains(Modifier.STATIC) && element.getKind() == ElementKind.FIELD) {
                holds(5, at + " is final", flags.contains(Modifier.FINAL));
                holds(5, at + " is a constant of the type " + type,
                    CONSTANT_TYPES.contains(type) || tree.getName().contentEquals("ALL"));
            }
            if (element.getEnclosingElement().getKind() == ElementKind.ENUM && element.getKind() == ElementKind.FIELD
                && !flags.contains(Modifier.STATIC)) {
                holds(2, at + " is a field of an enum", type.equals("int") || type.equals("java.lang.String"));
            }
            boolean ofTheOuter = element.getKind() == ElementKind.FIELD
                && element.getEnclosingElement().getSimpleName().contentEquals("BowingRow");
            if (ofTheOuter && !tree.getName().contentEquals("NONE")) {
                holds(1, at + " is private", flags.contains(Modifier.PRIVATE));
            }
            return super.visitVariable(tree, none);
        }

        @Override
        public Void visitMethodInvocation(MethodInvocationTree tree, Void none) {
            Element called = trees.getElement(getCurrentPath());
            if (isOwn(called)) {
                boolean implied = called.getKind() == ElementKind.CONSTRUCTOR || name(called).equals("Word.values");
                if (!implied && !method.isEmpty()) {
                    calls.get(method).add(name(called));
                }
            } else if (called.getKind() != ElementKind.CONSTRUCTOR) {
                String name = called.getEnclosingElement() + "." + called.getSimpleName();
                holds(4, "line " + line(tree) + " calls " + name, LIBRARY.contains(name));
            }
            return super.visitMethodInvocation(tree, none);
        }

        @Override
        public Void visitNewClass(NewClassTree tree, Void none) {
            Element built = trees.getElement(getCurrentPath());
            boolean thrown = getCurrentPath().getParentPath().getLeaf() instanceof ThrowTree;
            holds(2, "line " + line(tree) + " is of a class without a name", tree.getClassBody() == null);
            if (!thrown && !method.isEmpty() && !constructing && isOwn(built)) {
                made.add(method + " " + built.getEnclosingElement().getSimpleName());
            }
            return super.visitNewClass(tree, none);
        }

        @Override
        public Void visitNewArray(NewArrayTree tree, Void none) {
            if (!method.isEmpty() && !constructing) {
                made.add(method + " " + tree.getType() + "[]");
                holds(12, "line " + line(tree) + " makes an array in a loop", loops == 0);
            }
            return super.visitNewArray(tree, none);
        }

        @Override
        public Void visitThrow(ThrowTree tree, Void none) {
            String at = "line " + line(tree);
            boolean fresh = tree.getExpression() instanceof NewClassTree;
            holds(6, at + " throws a new one", fresh);
            holds(6, at + " throws in a constructor", !constructing);
            if (fresh) {
                NewClassTree thrown = (NewClassTree) tree.getExpression();
                holds(6, at + " throws one that may be", THROWN.contains(thrown.getIdentifier().toString()));
                for (ExpressionTree text : thrown.getArguments()) {
                    holds(6, at + " throws with a written text", text instanceof LiteralTree);
                }
            }
            return super.visitThrow(tree, none);
        }

        @Override
        public Void visitTry(TryTree tree, Void none) {
            holds(6, "line " + line(tree) + ": a try is not needed", false);
            return super.visitTry(tree, none);
        }

        @Override
        public Void visitLambdaExpression(LambdaExpressionTree tree, Void none) {
            holds(2, "line " + line(tree) + ": a lambda", false);
            return super.visitLambdaExpression(tree, none);
        }

        @Override
        public Void visitMemberReference(MemberReferenceTree tree, Void none) {
            holds(2, "line " + line(tree) + ": a method reference", false);
            return super.visitMemberReference(tree, none);
        }

        @Override
        public Void visitTypeCast(TypeCastTree tree, Void none) {
            holds(7, "line " + line(tree) + " casts to a number", tree.getType().getKind() == Tree.Kind.PRIMITIVE_TYPE);
            return super.visitTypeCast(tree, none);
        }

        @Override
        public Void visitForLoop(ForLoopTree tree, Void none) {
            boolean bound = tree.getCondition() != null && !tree.getUpdate().isEmpty();
            holds(9, "line " + line(tree) + " has an end", bound);
            loops++;
            super.visitForLoop(tree, none);
            loops--;
            return null;
        }

        @Override
        public Void visitWhileLoop(WhileLoopTree tree, Void none) {
            String end = tree.getCondition().toString();
            holds(9, "line " + line(tree) + " has an end", end.contains("<") || end.contains(">"));
            loops++;
            super.visitWhileLoop(tree, none);
            loops--;
            return null;
        }

        @Override
        public Void visitDoWhileLoop(DoWhileLoopTree tree, Void none) {
            holds(9, "line " + line(tree) + ": a do is not needed", false);
            return super.visitDoWhileLoop(tree, none);
        }

        @Override
        public Void visitBinary(BinaryTree tree, Void none) {
            TypeMirror type = trees.getTypeMirror(getCurrentPath());
            holds(10, "line " + line(tree) + " joins no texts", !type.toString().equals("java.lang.String"));
            boolean divides = tree.getKind() == Tree.Kind.DIVIDE || tree.getKind() == Tree.Kind.REMAINDER;
            if (divides) {
                divisor(tree, tree.getRightOperand());
            }
            return super.visitBinary(tree, none);
        }

        /** A constant that is not 0, or one of the two that the class looks at first. */
        private void divisor(Tree tree, ExpressionTree by) {
            String text = by.toString();
            boolean constant = text.matches("[A-Z_]+|[1-9][0-9]*");
            holds(7, "line " + line(tree) + " divides by " + text,
                constant || Set.of("BowingRow.holder call.size", "Law.joined other").contains(method + " " + text));
        }

        @Override
        public Void visitCompoundAssignment(CompoundAssignmentTree tree, Void none) {
            boolean divides = tree.getKind() == Tree.Kind.DIVIDE_ASSIGNMENT
                || tree.getKind() == Tree.Kind.REMAINDER_ASSIGNMENT;
            if (divides) {
                divisor(tree, tree.getExpression());
            }
            return super.visitCompoundAssignment(tree, none);
        }

        @Override
        public Void visitAssignment(AssignmentTree tree, Void none) {
            // the arrays that are written out must stay as they are
            String target = tree.getVariable().toString();
            holds(5, "line " + line(tree) + " changes a constant", !target.matches("[A-Z_.]+\\[.*"));
            return super.visitAssignment(tree, none);
        }
    }
}
