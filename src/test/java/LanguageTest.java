import com.sun.source.tree.ArrayAccessTree;
import com.sun.source.tree.AssignmentTree;
import com.sun.source.tree.BinaryTree;
import com.sun.source.tree.ClassTree;
import com.sun.source.tree.CompoundAssignmentTree;
import com.sun.source.tree.DoWhileLoopTree;
import com.sun.source.tree.ExpressionTree;
import com.sun.source.tree.ForLoopTree;
import com.sun.source.tree.IdentifierTree;
import com.sun.source.tree.LiteralTree;
import com.sun.source.tree.MemberSelectTree;
import com.sun.source.tree.MethodInvocationTree;
import com.sun.source.tree.MethodTree;
import com.sun.source.tree.NewArrayTree;
import com.sun.source.tree.NewClassTree;
import com.sun.source.tree.ParenthesizedTree;
import com.sun.source.tree.StatementTree;
import com.sun.source.tree.Tree;
import com.sun.source.tree.UnaryTree;
import com.sun.source.tree.VariableTree;
import com.sun.source.tree.WhileLoopTree;
import com.sun.source.util.TreePath;
import com.sun.source.util.TreePathScanner;
import java.io.IOException;
import java.lang.reflect.Constructor;
import java.lang.reflect.Field;
import java.lang.reflect.Method;
import java.lang.reflect.Modifier;
import java.nio.charset.StandardCharsets;
import java.nio.file.Files;
import java.nio.file.Path;
import java.util.ArrayList;
import java.util.Arrays;
import java.util.EnumSet;
import java.util.HashSet;
import java.util.List;
import java.util.Map;
import java.util.Set;
import java.util.TreeMap;
import java.util.TreeSet;
import java.util.stream.Collectors;
import javax.lang.model.element.Element;
import javax.lang.model.element.VariableElement;

/**
 * The public face of the document, to the letter, by reflection; and the thirteen rules of
 * ../shared/LANGUAGE.md, by the tree that javac makes of the source. Where a rule lets more in than the
 * class has, the test keeps to what the class has. Runs from the project's root, as .ci/run does.
 */
public final class LanguageTest {
    private static final Path FILE = Path.of("src/main/java/LastHappened.java");
    private static final List<String> FACE = List.of(
        "int town(int)", "int street(int,int,int,int)", "int event(int,int,int,int,int,int)", "int back(int)",
        "int law(int)", "int undo()", "int rent(int,int)", "int type(int)", "int clear()", "int read()",
        "int of(int,int)", "int name(int,int)", "int changes(int)", "int which(int,int,int)",
        "int letter(int,int,int)", "int cab(int,int,int)", "int find(int,int)", "int stage(int,int,int,int)",
        "int forbid(int)", "int rents(int)", "int landlords(int,int,int,int)", "int round(int,int)",
        "int reading(int,int,int)", "int burn()", "int truly(int)", "int drawn(int,int,int)", "int image(int)",
        "int from(int)", "int status(int)", "int count(int)", "long digest()");

    /** All that the tree is made of: nothing else may stand in the file (no throw, try, cast, lambda ..). */
    private static final Set<Tree.Kind> KINDS = EnumSet.of(Tree.Kind.COMPILATION_UNIT, Tree.Kind.CLASS, Tree.Kind.METHOD,
        Tree.Kind.VARIABLE, Tree.Kind.MODIFIERS, Tree.Kind.PRIMITIVE_TYPE, Tree.Kind.ARRAY_TYPE, Tree.Kind.BLOCK,
        Tree.Kind.IF, Tree.Kind.FOR_LOOP, Tree.Kind.WHILE_LOOP, Tree.Kind.SWITCH, Tree.Kind.CASE, Tree.Kind.BREAK,
        Tree.Kind.RETURN, Tree.Kind.EXPRESSION_STATEMENT, Tree.Kind.PARENTHESIZED, Tree.Kind.CONDITIONAL_EXPRESSION,
        Tree.Kind.IDENTIFIER, Tree.Kind.MEMBER_SELECT, Tree.Kind.ARRAY_ACCESS, Tree.Kind.METHOD_INVOCATION,
        Tree.Kind.NEW_CLASS, Tree.Kind.NEW_ARRAY, Tree.Kind.ASSIGNMENT, Tree.Kind.AND_ASSIGNMENT, Tree.Kind.OR_ASSIGNMENT,
        Tree.Kind.PLUS_ASSIGNMENT, Tree.Kind.POSTFIX_INCREMENT, Tree.Kind.POSTFIX_DECREMENT, Tree.Kind.UNARY_MINUS,
        Tree.Kind.BITWISE_COMPLEMENT, Tree.Kind.LOGICAL_COMPLEMENT, Tree.Kind.PLUS, Tree.Kind.MINUS, Tree.Kind.MULTIPLY,
        Tree.Kind.DIVIDE, Tree.Kind.REMAINDER, Tree.Kind.LEFT_SHIFT, Tree.Kind.RIGHT_SHIFT, Tree.Kind.AND, Tree.Kind.OR,
        Tree.Kind.XOR, Tree.Kind.CONDITIONAL_AND, Tree.Kind.CONDITIONAL_OR, Tree.Kind.EQUAL_TO, Tree.Kind.NOT_EQUAL_TO,
        Tree.Kind.LESS_THAN, Tree.Kind.LESS_THAN_EQUAL, Tree.Kind.GREATER_THAN, Tree.Kind.GREATER_THAN_EQUAL,
        Tree.Kind.INT_LITERAL, Tree.Kind.LONG_LITERAL, Tree.Kind.BOOLEAN_LITERAL, Tree.Kind.CHAR_LITERAL,
        Tree.Kind.STRING_LITERAL);
    private static final Set<String> LIBRARY = Set.of("java.lang.String.length()", "java.lang.String.charAt(int)",
        "java.lang.Math.max(int,int)", "java.lang.Math.min(int,int)", "java.lang.Integer.bitCount(int)",
        "java.lang.System.arraycopy(java.lang.Object,int,java.lang.Object,int,int)", "java.lang.Object.Object()");
    private static final Set<String> TYPES = Set.of("int", "long", "boolean", "int[]", "java.lang.String");

    private final Source source;

    private LanguageTest(Source source) {
        this.source = source;
    }

    private static void holds(String rule, boolean isSo) {
        Calls.due(rule, isSo ? 1 : 0, 1);
    }

    // ---- rules 1 and 2, and the sizes of rule 11, by reflection

    private static void face() throws ReflectiveOperationException {
        Calls.part("rule 1: the face of the document, no other");
        Set<String> open = new TreeSet<>();
        Set<String> closed = new TreeSet<>();
        for (Method m : LastHappened.class.getDeclaredMethods()) {
            String takes = Arrays.stream(m.getParameterTypes()).map(Class::getName).collect(Collectors.joining(","));
            if (!Modifier.isPrivate(m.getModifiers())) {
                holds("public: " + m, m.getModifiers() == Modifier.PUBLIC);
                open.add(m.getReturnType().getName() + " " + m.getName() + "(" + takes + ")");
            } else {
                closed.add(m.getName());
            }
        }
        holds("the methods of the face: " + open, open.equals(new TreeSet<>(FACE)));
        for (Class<?> inside : LastHappened.class.getDeclaredClasses()) {
            for (Method m : inside.getDeclaredMethods()) {
                closed.add(m.getName());
            }
        }
        for (String name : Calls.NAMES) {
            holds("no other method called " + name, !closed.contains(name));
        }
        Constructor<?>[] made = LastHappened.class.getDeclaredConstructors();
        holds("one public constructor", made.length == 1 && made[0].getParameterCount() == 0
            && made[0].getModifiers() == Modifier.PUBLIC);
        holds("public and final", LastHappened.class.getModifiers() == (Modifier.PUBLIC | Modifier.FINAL));
        constants();
    }

    private static void constants() throws ReflectiveOperationException {
        TreeMap<String, Integer> open = new TreeMap<>();
        for (Field f : LastHappened.class.getDeclaredFields()) {
            if (!Modifier.isPrivate(f.getModifiers())) {
                holds("a constant: " + f, f.getModifiers() == (Modifier.PUBLIC | Modifier.STATIC | Modifier.FINAL));
                open.put(f.getName(), f.getInt(null));
            }
        }
        holds("the constants", open.toString().equals("{BAD=-2, FULL=-4, NO=-3, NONE=-1}"));
    }

    private static void classesInside() {
        Calls.part("rules 2 and 11: classes inside, static, some twelve, of some twenty fields");
        Class<?>[] inside = LastHappened.class.getDeclaredClasses();
        for (Class<?> each : inside) {
            holds("static and private: " + each, (each.getModifiers() & (Modifier.STATIC | Modifier.PRIVATE))
                == (Modifier.STATIC | Modifier.PRIVATE));
            holds("no class in a class inside: " + each, each.getDeclaredClasses().length == 0);
            holds("extends nothing: " + each, each.getSuperclass() == Object.class && each.getInterfaces().length == 0);
            fields(each);
        }
        fields(LastHappened.class);
        holds("some twelve classes", inside.length + 1 <= 12);
    }

    private static void fields(Class<?> owner) {
        int fields = 0;
        for (Field f : owner.getDeclaredFields()) {
            fields += Modifier.isStatic(f.getModifiers()) ? 0 : 1;
        }
        holds("some twenty fields: " + owner, fields <= 20);
    }

    // ---- the other rules, by the tree

    private static void signs() throws IOException {
        Calls.part("rule 4: signs of the file");
        String text = Files.readString(FILE, StandardCharsets.ISO_8859_1);
        holds("signs 10 and 32 to 126 alone", text.chars().allMatch(c -> c == '\n' || c >= 32 && c < 127));
        String[] lines = text.split("\n");
        for (int i = 0; i < lines.length; i++) {
            holds("line " + (i + 1) + " has 120 signs at most", lines[i].length() <= 120);
        }
    }

    private void tree() {
        Calls.part("one file without a package or an import");
        holds("no package", source.unit().getPackageName() == null);
        holds("no import", source.unit().getImports().isEmpty());
        holds("one class at the top", source.unit().getTypeDecls().size() == 1);
        Calls.part("rules 2, 6, 10: nothing but what these let in stands in the tree");
        new Kinds().scan(source.unit(), null);
        Calls.part("rule 3: types");
        new Types().scan(source.unit(), null);
        Calls.part("rules 4 and 13: the library");
        new Library().scan(source.unit(), null);
        Calls.part("rule 5: static fields are final, and their arrays never changed");
        new Statics().scan(source.unit(), null);
        Calls.part("rule 6: no two texts, no two objects of the library compared or joined");
        new Operands().scan(source.unit(), null);
        Calls.part("rule 7: divisors are constants, not 0");
        new Divisors().scan(source.unit(), null);
        Calls.part("rule 9: loops end by a counter against a bound");
        new Loops().scan(source.unit(), null);
        Calls.part("rule 12: objects are made with their owner alone");
        new Making().scan(source.unit(), null);
    }

    private void methods() {
        Calls.part("rules 8 and 11: no recursion, calls eight deep at most, short methods, few parameters");
        for (Map.Entry<Element, TreePath> each : source.methods().entrySet()) {
            MethodTree method = (MethodTree) each.getValue().getLeaf();
            holds("seven parameters at most: " + each.getKey(), method.getParameters().size() <= 7);
            holds("some sixty lines: " + each.getKey(), source.lastLine(method) - source.line(method) < 60);
            int depth = source.depth(each.getKey());
            holds("eight deep at most: " + each.getKey() + " has " + depth, depth <= 8);
        }
        holds("no recursion", !source.isRecursive());
        holds("the calls of the face and many others", source.methods().size() > 100);
    }

    private String at(Tree tree) {
        return "line " + source.line(tree) + ": " + tree.toString().split("\n")[0];
    }

    private final class Kinds extends TreePathScanner<Void, Void> {
        @Override
        public Void scan(Tree tree, Void nothing) {
            if (tree != null) {
                holds(tree.getKind() + " in " + at(tree), KINDS.contains(tree.getKind()));
            }
            return super.scan(tree, nothing);
        }

        @Override
        public Void visitMethod(MethodTree tree, Void nothing) {
            holds("throws nothing: " + tree.getName(), tree.getThrows().isEmpty());
            holds("no kinds of its own: " + tree.getName(), tree.getTypeParameters().isEmpty());
            return super.visitMethod(tree, nothing);
        }

        @Override
        public Void visitClass(ClassTree tree, Void nothing) {
            holds("a class of a class or of the file: " + tree.getSimpleName(), getCurrentPath().getParentPath().getLeaf()
                instanceof ClassTree || getCurrentPath().getParentPath().getLeaf() == source.unit());
            for (Tree member : tree.getMembers()) {
                holds("no block of its own: " + at(member), member.getKind() != Tree.Kind.BLOCK);
            }
            return super.visitClass(tree, nothing);
        }
    }

    private final class Types extends TreePathScanner<Void, Void> {
        @Override
        public Void visitVariable(VariableTree tree, Void nothing) {
            fits(tree, tree.getType());
            return super.visitVariable(tree, nothing);
        }

        @Override
        public Void visitMethod(MethodTree tree, Void nothing) {
            if (tree.getReturnType() != null && !tree.getReturnType().toString().equals("void")) {
                fits(tree, tree.getReturnType());
            }
            return super.visitMethod(tree, nothing);
        }

        private void fits(Tree tree, Tree type) {
            TreePath path = new TreePath(getCurrentPath(), type);
            holds("a type of rule 3: " + at(tree), TYPES.contains(source.type(path).toString())
                || source.isOwn(source.element(path)));
        }
    }

    private final class Library extends TreePathScanner<Void, Void> {
        @Override
        public Void visitMethodInvocation(MethodInvocationTree tree, Void nothing) {
            Element called = source.element(new TreePath(getCurrentPath(), tree.getMethodSelect()));
            String name = called.getEnclosingElement() + "." + called;
            holds("a method of rule 4: " + name, source.isOwn(called) || LIBRARY.contains(name)
                || name.equals("java.lang.Object.Object()"));
            return super.visitMethodInvocation(tree, nothing);
        }

        @Override
        public Void visitMemberSelect(MemberSelectTree tree, Void nothing) {
            Element meant = source.element(getCurrentPath());
            boolean isMethod = getCurrentPath().getParentPath().getLeaf() instanceof MethodInvocationTree;
            holds("a member of its own, or a length: " + at(tree), isMethod || source.isOwn(meant)
                || tree.getIdentifier().contentEquals("length"));
            return super.visitMemberSelect(tree, nothing);
        }

        @Override
        public Void visitNewClass(NewClassTree tree, Void nothing) {
            holds("an object of its own: " + at(tree), source.isOwn(source.element(getCurrentPath()).getEnclosingElement()));
            return super.visitNewClass(tree, nothing);
        }

        @Override
        public Void visitLiteral(LiteralTree tree, Void nothing) {
            if (tree.getValue() instanceof String) {
                holds("signs 1 to 127: " + at(tree), ((String) tree.getValue()).chars().allMatch(c -> c > 0 && c < 128));
            }
            return super.visitLiteral(tree, nothing);
        }
    }

    private final class Statics extends TreePathScanner<Void, Void> {
        @Override
        public Void visitVariable(VariableTree tree, Void nothing) {
            Element field = source.element(getCurrentPath());
            boolean isField = getCurrentPath().getParentPath().getLeaf() instanceof ClassTree;
            if (isField && Source.isStatic(field)) {
                holds("final: " + at(tree), field.getModifiers().contains(javax.lang.model.element.Modifier.FINAL));
                boolean isWrittenOut = tree.getInitializer() instanceof NewArrayTree
                    && ((NewArrayTree) tree.getInitializer()).getInitializers() != null;
                holds("a constant, or an array written out: " + at(tree),
                    ((VariableElement) field).getConstantValue() != null || isWrittenOut);
            }
            return super.visitVariable(tree, nothing);
        }

        /** A static array stands only where it is looked into, and nowhere to be put into or handed on. */
        @Override
        public Void visitIdentifier(IdentifierTree tree, Void nothing) {
            Element meant = source.element(getCurrentPath());
            if (meant instanceof VariableElement && Source.isStatic(meant) && meant.asType().toString().equals("int[]")) {
                TreePath parent = getCurrentPath().getParentPath();
                boolean isLength = parent.getLeaf() instanceof MemberSelectTree;
                boolean isCell = parent.getLeaf() instanceof ArrayAccessTree
                    && ((ArrayAccessTree) parent.getLeaf()).getExpression() == tree;
                Tree user = parent.getParentPath().getLeaf();
                boolean isChanged = isCell && (user instanceof AssignmentTree
                    && ((AssignmentTree) user).getVariable() == parent.getLeaf() || user instanceof CompoundAssignmentTree
                    && ((CompoundAssignmentTree) user).getVariable() == parent.getLeaf() || isStep(user));
                holds("read alone: " + at(user), isLength || isCell && !isChanged);
            }
            return super.visitIdentifier(tree, nothing);
        }
    }

    private static boolean isStep(Tree tree) {
        return tree.getKind() == Tree.Kind.POSTFIX_INCREMENT || tree.getKind() == Tree.Kind.POSTFIX_DECREMENT;
    }

    private final class Operands extends TreePathScanner<Void, Void> {
        @Override
        public Void visitBinary(BinaryTree tree, Void nothing) {
            holds("of numbers or truths: " + at(tree), isPlain(tree.getLeftOperand()) && isPlain(tree.getRightOperand()));
            return super.visitBinary(tree, nothing);
        }

        private boolean isPlain(ExpressionTree operand) {
            return source.type(new TreePath(getCurrentPath(), operand)).getKind().isPrimitive();
        }
    }

    private final class Divisors extends TreePathScanner<Void, Void> {
        @Override
        public Void visitBinary(BinaryTree tree, Void nothing) {
            if (tree.getKind() == Tree.Kind.DIVIDE || tree.getKind() == Tree.Kind.REMAINDER) {
                holds("a constant divisor: " + at(tree), isConstant(tree.getRightOperand()));
            }
            return super.visitBinary(tree, nothing);
        }

        private boolean isConstant(ExpressionTree divisor) {
            Element meant = source.element(new TreePath(getCurrentPath(), divisor));
            Object value = divisor instanceof LiteralTree ? ((LiteralTree) divisor).getValue()
                : meant instanceof VariableElement ? ((VariableElement) meant).getConstantValue() : null;
            return value instanceof Number && ((Number) value).longValue() != 0;
        }
    }

    /** In each loop one and the same counter goes up by one and is held against a bound. */
    private final class Loops extends TreePathScanner<Void, Void> {
        @Override
        public Void visitForLoop(ForLoopTree tree, Void nothing) {
            Set<String> counted = new HashSet<>();
            for (StatementTree update : tree.getUpdate()) {
                new Steps(counted).scan(new TreePath(getCurrentPath(), update), null);
            }
            holds("a bound: " + at(tree), isBound(tree.getCondition(), counted));
            return super.visitForLoop(tree, nothing);
        }

        @Override
        public Void visitWhileLoop(WhileLoopTree tree, Void nothing) {
            Set<String> counted = new HashSet<>();
            new Steps(counted).scan(new TreePath(getCurrentPath(), tree.getStatement()), null);
            holds("a bound: " + at(tree), isBound(tree.getCondition(), counted));
            return super.visitWhileLoop(tree, nothing);
        }

        @Override
        public Void visitDoWhileLoop(DoWhileLoopTree tree, Void nothing) {
            holds("no loop that goes on before it looks: " + at(tree), false);
            return super.visitDoWhileLoop(tree, nothing);
        }

        private boolean isBound(ExpressionTree condition, Set<String> counted) {
            if (condition instanceof ParenthesizedTree) {
                return isBound(((ParenthesizedTree) condition).getExpression(), counted);
            }
            if (!(condition instanceof BinaryTree)) {
                return false;
            }
            BinaryTree both = (BinaryTree) condition;
            if (both.getKind() == Tree.Kind.CONDITIONAL_AND) {
                return isBound(both.getLeftOperand(), counted) || isBound(both.getRightOperand(), counted);
            }
            boolean isBelow = both.getKind() == Tree.Kind.LESS_THAN || both.getKind() == Tree.Kind.LESS_THAN_EQUAL;
            return isBelow && counted.contains(Source.nameOf(both.getLeftOperand()));
        }
    }

    private static final class Steps extends TreePathScanner<Void, Void> {
        private final Set<String> counted;

        Steps(Set<String> counted) {
            this.counted = counted;
        }

        @Override
        public Void visitUnary(UnaryTree tree, Void nothing) {
            if (tree.getKind() == Tree.Kind.POSTFIX_INCREMENT) {
                counted.add(Source.nameOf(tree.getExpression()));
            }
            return super.visitUnary(tree, nothing);
        }
    }

    private final class Making extends TreePathScanner<Void, Void> {
        @Override
        public Void visitNewClass(NewClassTree tree, Void nothing) {
            withOwner(tree);
            return super.visitNewClass(tree, nothing);
        }

        @Override
        public Void visitNewArray(NewArrayTree tree, Void nothing) {
            withOwner(tree);
            return super.visitNewArray(tree, nothing);
        }

        private void withOwner(Tree made) {
            List<Tree.Kind> around = new ArrayList<>();
            String method = "<init>";
            for (TreePath p = getCurrentPath().getParentPath(); p != null; p = p.getParentPath()) {
                around.add(p.getLeaf().getKind());
                if (p.getLeaf() instanceof MethodTree) {
                    method = ((MethodTree) p.getLeaf()).getName().toString();
                }
            }
            holds("made with its owner: " + at(made), method.equals("<init>")
                && !around.contains(Tree.Kind.FOR_LOOP) && !around.contains(Tree.Kind.WHILE_LOOP));
        }
    }

    public static void main(String[] args) throws IOException, ReflectiveOperationException {
        face();
        classesInside();
        signs();
        LanguageTest test = new LanguageTest(new Source(FILE));
        test.tree();
        test.methods();
        Calls.finish("the face, and the rules of LANGUAGE.md");
    }
}
