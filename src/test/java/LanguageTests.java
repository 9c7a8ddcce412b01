import com.sun.source.tree.BinaryTree;
import com.sun.source.tree.BlockTree;
import com.sun.source.tree.ClassTree;
import com.sun.source.tree.CompilationUnitTree;
import com.sun.source.tree.ExpressionTree;
import com.sun.source.tree.ForLoopTree;
import com.sun.source.tree.MethodInvocationTree;
import com.sun.source.tree.MethodTree;
import com.sun.source.tree.NewClassTree;
import com.sun.source.tree.ParenthesizedTree;
import com.sun.source.tree.Tree;
import com.sun.source.tree.VariableTree;
import com.sun.source.tree.WhileLoopTree;
import com.sun.source.util.JavacTask;
import com.sun.source.util.SourcePositions;
import com.sun.source.util.TreePathScanner;
import com.sun.source.util.Trees;
import java.util.ArrayList;
import java.util.EnumSet;
import java.util.HashSet;
import java.util.List;
import java.util.Map;
import java.util.Set;
import java.util.TreeMap;
import java.util.TreeSet;
import javax.lang.model.element.Element;
import javax.lang.model.element.ElementKind;
import javax.lang.model.element.Modifier;
import javax.lang.model.type.ArrayType;
import javax.lang.model.type.TypeKind;
import javax.lang.model.type.TypeMirror;
import javax.tools.JavaCompiler;
import javax.tools.StandardJavaFileManager;
import javax.tools.ToolProvider;

/** The rules of LANGUAGE.md that the class's tree shows; a rule is named by its number. */
public final class LanguageTests {
    private static final Checks C = new Checks("LanguageTests");
    private static final String SOURCE = "src/main/java/PulledJersey.java";
    /** Of what rule 4 lists only that which the class has use for. */
    private static final Set<String> LIBRARY = Set.of("String.length", "String.charAt", "Math.min", "Math.max",
        "Long.bitCount", "System.arraycopy");
    private static final Set<Tree.Kind> BANNED = EnumSet.of(Tree.Kind.THROW, Tree.Kind.TRY, Tree.Kind.SYNCHRONIZED,
        Tree.Kind.ASSERT, Tree.Kind.LAMBDA_EXPRESSION, Tree.Kind.MEMBER_REFERENCE, Tree.Kind.IMPORT, Tree.Kind.PACKAGE,
        Tree.Kind.FLOAT_LITERAL, Tree.Kind.DOUBLE_LITERAL, Tree.Kind.SWITCH_EXPRESSION, Tree.Kind.ENHANCED_FOR_LOOP);
    private static final Set<Tree.Kind> BOUNDS = EnumSet.of(Tree.Kind.LESS_THAN, Tree.Kind.LESS_THAN_EQUAL,
        Tree.Kind.GREATER_THAN, Tree.Kind.GREATER_THAN_EQUAL);
    private static final int MOST_PARAMETERS = 7;
    private static final int MOST_LINES = 60;
    private static final int MOST_CLASSES = 12;
    private static final int MOST_FIELDS = 20;
    private static final int MOST_DEEP = 8;

    private static Trees trees;
    private static CompilationUnitTree unit;
    private static final Map<String, Set<String>> CALLS = new TreeMap<>();
    private static final Set<String> FACE = new TreeSet<>();
    private static final Set<String> HIDDEN = new TreeSet<>();
    private static int classes;

    public static void main(String[] args) throws Exception {
        JavaCompiler compiler = ToolProvider.getSystemJavaCompiler();
        try (StandardJavaFileManager files = compiler.getStandardFileManager(null, null, null)) {
            JavacTask task = (JavacTask) compiler.getTask(null, files, null, null, null, files.getJavaFileObjects(SOURCE));
            trees = Trees.instance(task);
            unit = task.parse().iterator().next();
            task.analyze();
            new Reader().scan(unit, null);
        }
        C.about("rule 1");
        for (String name : HIDDEN) {
            C.no(name + " is named like a public one", FACE.contains(name.substring(name.indexOf('.') + 1)));
        }
        C.about("rule 11");
        C.yes(classes + " classes", classes <= MOST_CLASSES);
        for (String name : FACE) {
            int deep = deepest("PulledJersey." + name, new HashSet<>());
            C.yes("calls " + deep + " deep from " + name, deep <= MOST_DEEP);
        }
        recursion();
        C.close();
    }

    /** How many methods stand open at once at most; one that is open already is not counted again. */
    private static int deepest(String method, Set<String> open) {
        if (!open.add(method)) {
            return 0;
        }
        int most = 0;
        for (String next : CALLS.getOrDefault(method, Set.of())) {
            most = Math.max(most, deepest(next, open));
        }
        open.remove(method);
        return most + 1;
    }

    /** Only what carries its depth as an argument comes to itself again. */
    private static void recursion() {
        C.about("rule 8");
        Set<String> known = Set.of("LawReader.readCondition", "LawReader.readClause", "Saver.choose");
        for (String method : CALLS.keySet()) {
            C.due(method + " comes to itself", comesTo(method, method, new HashSet<>()), known.contains(method));
        }
    }

    private static boolean comesTo(String from, String to, Set<String> seen) {
        for (String next : CALLS.getOrDefault(from, Set.of())) {
            if (next.equals(to) || seen.add(next) && comesTo(next, to, seen)) {
                return true;
            }
        }
        return false;
    }

    private static final class Reader extends TreePathScanner<Void, Void> {
        private String method = "";
        private boolean isFieldsPlace;

        @Override
        public Void scan(Tree tree, Void none) {
            if (tree != null) {
                C.about("line " + lineOf(tree));
                C.no("it has " + tree.getKind(), BANNED.contains(tree.getKind()));
            }
            return super.scan(tree, none);
        }

        @Override
        public Void visitClass(ClassTree tree, Void none) {
            classes++;
            C.about("rule 2");
            Element element = trees.getElement(getCurrentPath());
            boolean isOuter = element.getEnclosingElement().getKind() == ElementKind.PACKAGE;
            C.due(element + " is public", element.getModifiers().contains(Modifier.PUBLIC), isOuter);
            C.due(element + " is static", element.getModifiers().contains(Modifier.STATIC), !isOuter);
            C.yes(element + " is final", element.getModifiers().contains(Modifier.FINAL));
            C.due(element + " is a plain class", element.getKind() == ElementKind.CLASS, true);
            int fields = 0;
            for (Tree member : tree.getMembers()) {
                boolean isConstant = member instanceof VariableTree v && v.getModifiers().getFlags().contains(Modifier.STATIC);
                fields += member instanceof VariableTree && !isConstant ? 1 : 0;
                C.about("rule 5");
                C.no("a block of its own", member instanceof BlockTree);
            }
            C.about("rule 11");
            C.yes(fields + " fields in " + element, fields <= MOST_FIELDS);
            return super.visitClass(tree, none);
        }

        @Override
        public Void visitMethod(MethodTree tree, Void none) {
            Element element = trees.getElement(getCurrentPath());
            String owner = element.getEnclosingElement().getSimpleName().toString();
            String name = tree.getName().toString();
            method = owner + "." + name;
            CALLS.putIfAbsent(method, new TreeSet<>());
            boolean isMade = name.equals("<init>");
            if (!isMade && element.getModifiers().contains(Modifier.PUBLIC)) {
                FACE.add(name);
            } else if (!isMade) {
                HIDDEN.add(method);
            }
            C.about("rule 11");
            C.yes("parameters of " + method, tree.getParameters().size() <= MOST_PARAMETERS);
            long lines = lineOf(endOf(tree)) - lineOf(tree) + 1;
            C.yes(method + " has " + lines + " lines", lines <= MOST_LINES);
            super.visitMethod(tree, none);
            method = "";
            return null;
        }

        @Override
        public Void visitVariable(VariableTree tree, Void none) {
            Element element = trees.getElement(getCurrentPath());
            C.about("rule 3");
            C.yes(tree.getName() + " is a " + element.asType(), isPlain(element.asType()));
            C.about("rule 5");
            boolean isStatic = element.getModifiers().contains(Modifier.STATIC);
            C.yes(tree.getName() + " is final", !isStatic || element.getModifiers().contains(Modifier.FINAL));
            isFieldsPlace = element.getKind() == ElementKind.FIELD;
            super.visitVariable(tree, none);
            isFieldsPlace = false;
            return null;
        }

        @Override
        public Void visitMethodInvocation(MethodInvocationTree tree, Void none) {
            Element called = trees.getElement(new com.sun.source.util.TreePath(getCurrentPath(), tree.getMethodSelect()));
            Element owner = called.getEnclosingElement();
            String name = owner.getSimpleName() + "." + called.getSimpleName();
            if (isOwn(owner)) {
                CALLS.computeIfAbsent(method, m -> new TreeSet<>()).add(name);
            } else if (!name.equals("Object.<init>")) {
                C.about("rule 4, line " + lineOf(tree));
                C.yes("it calls " + name, LIBRARY.contains(name));
            }
            return super.visitMethodInvocation(tree, none);
        }

        @Override
        public Void visitNewClass(NewClassTree tree, Void none) {
            C.about("rule 12, line " + lineOf(tree));
            C.yes("an object is made with the object that has it", isFieldsPlace);
            C.yes("it has no body of its own", tree.getClassBody() == null);
            return super.visitNewClass(tree, none);
        }

        @Override
        public Void visitNewArray(com.sun.source.tree.NewArrayTree tree, Void none) {
            C.about("rule 12, line " + lineOf(tree));
            C.yes("a row is made with the object that has it", isFieldsPlace);
            return super.visitNewArray(tree, none);
        }

        @Override
        public Void visitBinary(BinaryTree tree, Void none) {
            if (tree.getKind() == Tree.Kind.EQUAL_TO || tree.getKind() == Tree.Kind.NOT_EQUAL_TO) {
                C.about("rule 6, line " + lineOf(tree));
                C.yes("== of what is no object", typeOf(tree.getLeftOperand()).getKind().isPrimitive()
                    && typeOf(tree.getRightOperand()).getKind().isPrimitive());
            }
            if (tree.getKind() == Tree.Kind.PLUS) {
                C.about("rule 10, line " + lineOf(tree));
                C.yes("+ of numbers", typeOf(tree).getKind().isPrimitive());
            }
            if (tree.getKind() == Tree.Kind.DIVIDE || tree.getKind() == Tree.Kind.REMAINDER) {
                divided(tree);
            }
            return super.visitBinary(tree, none);
        }

        /** A divisor is a constant or a name that the lines around it look at. */
        private void divided(BinaryTree tree) {
            C.about("rule 7, line " + lineOf(tree));
            String by = tree.getRightOperand().toString();
            C.yes("the divisor " + by, Set.of("w", "SURE", "m", "right").contains(by));
        }

        @Override
        public Void visitForLoop(ForLoopTree tree, Void none) {
            C.about("rule 9, line " + lineOf(tree));
            C.yes("a counter against a bound", hasBound(tree.getCondition()));
            C.due("steps of the counter", tree.getUpdate().size(), 1);
            return super.visitForLoop(tree, none);
        }

        @Override
        public Void visitWhileLoop(WhileLoopTree tree, Void none) {
            C.about("rule 9, line " + lineOf(tree));
            C.yes("a counter against a bound", hasBound(tree.getCondition()));
            C.yes("a step of the counter", tree.getStatement().toString().contains("++"));
            return super.visitWhileLoop(tree, none);
        }

        private TypeMirror typeOf(Tree tree) {
            return trees.getTypeMirror(new com.sun.source.util.TreePath(getCurrentPath(), tree));
        }
    }

    /** That the loop ends when the bound is reached: no "or" goes on beyond it. */
    private static boolean hasBound(ExpressionTree condition) {
        ExpressionTree one = condition;
        while (one instanceof ParenthesizedTree p) {
            one = p.getExpression();
        }
        if (one instanceof BinaryTree b && b.getKind() == Tree.Kind.CONDITIONAL_AND) {
            return hasBound(b.getLeftOperand()) || hasBound(b.getRightOperand());
        }
        return one != null && BOUNDS.contains(one.getKind());
    }

    private static boolean isPlain(TypeMirror type) {
        if (type.getKind() == TypeKind.ARRAY) {
            TypeMirror of = ((ArrayType) type).getComponentType();
            return of.getKind().isPrimitive();
        }
        List<TypeKind> numbers = new ArrayList<>(List.of(TypeKind.INT, TypeKind.LONG, TypeKind.BYTE, TypeKind.BOOLEAN));
        return numbers.contains(type.getKind()) || type.toString().equals("java.lang.String")
            || type.toString().startsWith("PulledJersey.");
    }

    private static boolean isOwn(Element owner) {
        return owner.toString().equals("PulledJersey") || owner.toString().startsWith("PulledJersey.");
    }

    private static long lineOf(Tree tree) {
        return lineOf(trees.getSourcePositions().getStartPosition(unit, tree));
    }

    private static long lineOf(long position) {
        return position < 0 ? 0 : unit.getLineMap().getLineNumber(position);
    }

    private static long endOf(Tree tree) {
        SourcePositions positions = trees.getSourcePositions();
        return positions.getEndPosition(unit, tree);
    }
}
