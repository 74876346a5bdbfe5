import com.sun.source.tree.ArrayAccessTree;
import com.sun.source.tree.AssertTree;
import com.sun.source.tree.AssignmentTree;
import com.sun.source.tree.BinaryTree;
import com.sun.source.tree.BlockTree;
import com.sun.source.tree.ClassTree;
import com.sun.source.tree.CompoundAssignmentTree;
import com.sun.source.tree.DoWhileLoopTree;
import com.sun.source.tree.ExpressionTree;
import com.sun.source.tree.ForLoopTree;
import com.sun.source.tree.IdentifierTree;
import com.sun.source.tree.ImportTree;
import com.sun.source.tree.LambdaExpressionTree;
import com.sun.source.tree.LiteralTree;
import com.sun.source.tree.MemberReferenceTree;
import com.sun.source.tree.MemberSelectTree;
import com.sun.source.tree.MethodInvocationTree;
import com.sun.source.tree.MethodTree;
import com.sun.source.tree.NewArrayTree;
import com.sun.source.tree.NewClassTree;
import com.sun.source.tree.ParenthesizedTree;
import com.sun.source.tree.StatementTree;
import com.sun.source.tree.SynchronizedTree;
import com.sun.source.tree.ThrowTree;
import com.sun.source.tree.Tree;
import com.sun.source.tree.TryTree;
import com.sun.source.tree.TypeCastTree;
import com.sun.source.tree.UnaryTree;
import com.sun.source.tree.VariableTree;
import com.sun.source.tree.WhileLoopTree;
import com.sun.source.util.TreePath;
import java.io.IOException;
import java.util.List;
import java.util.Set;
import java.util.TreeSet;
import javax.lang.model.element.Element;
import javax.lang.model.element.ElementKind;
import javax.lang.model.element.ExecutableElement;
import javax.lang.model.element.Modifier;
import javax.lang.model.element.VariableElement;
import javax.lang.model.type.TypeKind;

/** Holds the source of DriftSea against the rules of ../shared/LANGUAGE.md that can be read off it. */
public final class LanguageTest {
    private static final Set<String> LIBRARY = Set.of(
        "String.length", "String.charAt", "String.isEmpty", "String.equals", "String.indexOf", "String.substring",
        "String.toCharArray", "StringBuilder.append", "StringBuilder.charAt", "StringBuilder.setCharAt",
        "StringBuilder.setLength", "StringBuilder.deleteCharAt", "StringBuilder.reverse", "StringBuilder.length",
        "StringBuilder.toString", "Math.max", "Math.min", "Math.abs", "Math.floorDiv", "Math.floorMod",
        "Integer.bitCount", "Integer.compare", "Long.bitCount", "Long.compare", "System.arraycopy", "Arrays.copyOf",
        "Arrays.copyOfRange", "Arrays.fill", "Object.clone");
    private static final Set<String> THROWN = Set.of("IllegalStateException", "IllegalArgumentException",
        "IndexOutOfBoundsException", "ArithmeticException", "UnsupportedOperationException", "NoSuchElementException",
        "RuntimeException");
    private static final Set<String> NUMBERS = Set.of("int", "long", "short", "byte", "char", "boolean");
    private static final int MOST_PARAMETERS = 7;
    private static final int MOST_LINES = 60;
    private static final int DEEPEST = 8;
    private static final int MOST_CLASSES = 12;
    private static final int MOST_FIELDS = 20;

    private static Source source;

    public static void main(String[] args) throws IOException, ReflectiveOperationException {
        source = new Source("src/main/java/DriftSea.java");
        Edges.runAll(LanguageTest.class);
    }

    private static void none(String what, List<? extends Object> found) {
        Edges.due(what + " " + found, found.size(), 0);
    }

    private static List<String> at(List<TreePath> places) {
        return places.stream().map(place -> "line " + source.lineOf(place.getLeaf()) + ": " + place.getLeaf()).toList();
    }

    // ---- rules 1 and 2 ----

    @Says("1. The face: the class of the document .. but for the classes inside it, which are private or package-visible and static")
    static void classes() {
        Edges.due("no package", source.unit().getPackageName() == null, true);
        Edges.due("one class of the file", source.unit().getTypeDecls().size(), 1);
        for (TreePath place : source.all(ClassTree.class)) {
            Element type = source.elementAt(place);
            Set<Modifier> modifiers = type.getModifiers();
            boolean outermost = place.getParentPath().getLeaf() == source.unit();
            boolean as = outermost ? modifiers.containsAll(Set.of(Modifier.PUBLIC, Modifier.FINAL))
                : modifiers.contains(Modifier.STATIC) && !modifiers.contains(Modifier.PUBLIC)
                    && !modifiers.contains(Modifier.PROTECTED);
            Edges.due(type + " is as told", as, true);
        }
    }

    @Says("1. .. No private method bears the name of a public one")
    static void names() {
        Set<String> face = new TreeSet<>();
        for (ExecutableElement method : source.methods().keySet()) {
            if (method.getModifiers().contains(Modifier.PUBLIC)) {
                face.add(method.getSimpleName().toString());
            }
        }
        Edges.due("names of the face, the constructor's too", face.size(), 46);
        none("private ones", source.methods().keySet().stream().filter(method ->
            method.getModifiers().contains(Modifier.PRIVATE) && method.getKind() == ElementKind.METHOD
                && face.contains(method.getSimpleName().toString())).toList());
    }

    @Says("2. .. no local class .., no lambda, no method reference; 6. .. No synchronized, assert; no finally; 9. a loop has an end")
    static void whatIsNotThere() {
        none("lambdas", at(source.all(LambdaExpressionTree.class)));
        none("method references", at(source.all(MemberReferenceTree.class)));
        none("asserts", at(source.all(AssertTree.class)));
        none("synchronized", at(source.all(SynchronizedTree.class)));
        none("blocks of try: all that could be thrown is tested ahead", at(source.all(TryTree.class)));
        none("classes in a method", at(source.all(ClassTree.class).stream()
            .filter(place -> source.methodAround(place) != null).toList()));
        none("loops without a condition", at(source.all(ForLoopTree.class).stream()
            .filter(place -> ((ForLoopTree) place.getLeaf()).getCondition() == null).toList()));
        none("loops whose condition is a constant", at(source.all(WhileLoopTree.class).stream()
            .filter(place -> bare(((WhileLoopTree) place.getLeaf()).getCondition()) instanceof LiteralTree).toList()));
        none("do loops", at(source.all(DoWhileLoopTree.class)));
    }

    private static ExpressionTree bare(ExpressionTree tree) {
        return tree instanceof ParenthesizedTree brackets ? bare(brackets.getExpression()) : tree;
    }

    // ---- rules 3 and 4 ----

    @Says("3. Types: int, long, .. ; arrays of these and of your own classes, of one dimension, and .. of two dimensions of numbers")
    static void types() {
        for (TreePath place : source.all(VariableTree.class)) {
            Edges.due("type of " + place.getLeaf(), isAllowed(source.elementAt(place).asType().toString()), true);
        }
        for (ExecutableElement method : source.methods().keySet()) {
            String type = method.getReturnType().toString();
            Edges.due("type of " + method, type.equals("void") || isAllowed(type), true);
        }
    }

    private static boolean isAllowed(String type) {
        String of = type.endsWith("[]") ? type.substring(0, type.length() - 2) : type;
        return NUMBERS.contains(of) || of.startsWith("DriftSea")
            || type.equals("java.lang.String") || type.equals("java.lang.StringBuilder");
    }

    @Says("4. The library: only what stands here (none of those whose name ends in Exact)")
    static void library() {
        for (TreePath place : source.all(MethodInvocationTree.class)) {
            Element called = source.elementAt(place);
            String name = called.getEnclosingElement().getSimpleName() + "." + called.getSimpleName();
            boolean ofObject = name.equals("Object.<init>");
            Edges.due(name, source.isOwn(called) || ofObject || LIBRARY.contains(name), true);
            if (name.startsWith("Math.")) {
                String type = ((ExecutableElement) called).getReturnType().toString();
                Edges.due(name + " over int and long", type.equals("int") || type.equals("long"), true);
            }
        }
        List<String> imports = source.all(ImportTree.class).stream().map(place ->
            ((ImportTree) place.getLeaf()).getQualifiedIdentifier().toString()).toList();
        Edges.due("imports " + imports,
            Set.of("java.util.Arrays", "java.util.NoSuchElementException").containsAll(imports), true);
    }

    @Says("4. .. indexOf(char); constants, whose signs are 1 to 127")
    static void texts() {
        for (TreePath place : source.all(MethodInvocationTree.class)) {
            MethodInvocationTree call = (MethodInvocationTree) place.getLeaf();
            if (source.elementAt(place).getSimpleName().contentEquals("indexOf")) {
                Edges.due(call + " of a char", source.typeOf(place, call.getArguments().get(0)).getKind() == TypeKind.CHAR, true);
            }
        }
        for (TreePath place : source.all(LiteralTree.class)) {
            Object value = ((LiteralTree) place.getLeaf()).getValue();
            if (value instanceof String text) {
                Edges.due("signs of " + text, text.chars().allMatch(sign -> sign >= 1 && sign <= 127), true);
            }
        }
    }

    // ---- rule 5 ----

    @Says("5. Static fields are final: constants of int, long, boolean, char or String, .. arrays .. written out in their initialiser")
    static void constants() {
        for (TreePath place : source.all(VariableTree.class)) {
            VariableElement field = (VariableElement) source.elementAt(place);
            if (field.getKind() == ElementKind.FIELD && field.getModifiers().contains(Modifier.STATIC)) {
                ExpressionTree told = ((VariableTree) place.getLeaf()).getInitializer();
                boolean row = field.asType().getKind() == TypeKind.ARRAY;
                Edges.due(field + " is final", field.getModifiers().contains(Modifier.FINAL), true);
                Edges.due(field + " is a constant, or a row written out", row
                    ? told instanceof NewArrayTree written && written.getInitializers() != null
                    : field.getConstantValue() != null, true);
            }
        }
        none("static initialiser blocks", at(source.all(BlockTree.class).stream()
            .filter(place -> ((BlockTree) place.getLeaf()).isStatic()).toList()));
    }

    @Says("5. .. and never changed")
    static void constantsStay() {
        for (TreePath place : source.all(AssignmentTree.class)) {
            stays(place, ((AssignmentTree) place.getLeaf()).getVariable());
        }
        for (TreePath place : source.all(CompoundAssignmentTree.class)) {
            stays(place, ((CompoundAssignmentTree) place.getLeaf()).getVariable());
        }
        for (TreePath place : source.all(UnaryTree.class)) {
            stays(place, ((UnaryTree) place.getLeaf()).getExpression());
        }
        for (TreePath place : source.all(IdentifierTree.class)) {
            Element field = source.elementAt(place);
            boolean row = field instanceof VariableElement && field.getModifiers().contains(Modifier.STATIC)
                && field.asType().getKind() == TypeKind.ARRAY;
            Tree around = place.getParentPath().getLeaf();
            boolean copied = around instanceof MethodInvocationTree call
                && call.getMethodSelect().toString().equals("System.arraycopy") && call.getArguments().get(0) == place.getLeaf();
            Edges.due(field + " is only read", !row || copied || around instanceof ArrayAccessTree, true);
        }
    }

    private static void stays(TreePath place, ExpressionTree changed) {
        if (changed instanceof ArrayAccessTree cell) {
            Element row = source.elementOf(new TreePath(place, cell), cell.getExpression());
            Edges.due(changed + " is no constant's", row.getModifiers().contains(Modifier.STATIC), false);
        }
    }

    // ---- rule 6 ----

    @Says("6. Exceptions: throw new E() or throw new E(\"a written text\") .. no throw in a constructor")
    static void exceptions() {
        for (TreePath place : source.all(ThrowTree.class)) {
            ExpressionTree thrown = ((ThrowTree) place.getLeaf()).getExpression();
            Edges.due(thrown + " is made there", thrown instanceof NewClassTree, true);
            if (thrown instanceof NewClassTree made) {
                Edges.due(thrown + " is one of the told", THROWN.contains(made.getIdentifier().toString()), true);
                Edges.due(thrown + " has a written text at most",
                    made.getArguments().stream().allMatch(told -> told instanceof LiteralTree), true);
            }
            Edges.due(thrown + " in a method", source.methodAround(place).getKind() == ElementKind.METHOD, true);
        }
    }

    @Says("6. .. a cast only behind the test that makes it safe; == and != .. never between two Strings or two Integers")
    static void castsAndComparisons() {
        for (TreePath place : source.all(TypeCastTree.class)) {
            Edges.due(place.getLeaf() + " is of numbers",
                NUMBERS.contains(((TypeCastTree) place.getLeaf()).getType().toString()), true);
        }
        for (TreePath place : source.all(BinaryTree.class)) {
            BinaryTree two = (BinaryTree) place.getLeaf();
            String left = source.typeOf(place, two.getLeftOperand()).toString();
            Edges.due(two + " of texts or boxes", left.equals("java.lang.String") || left.equals("java.lang.Integer"), false);
        }
    }

    // ---- rules 7 and 8 ----

    /** What is divided by: a written number, a constant, or one of these, tested or held above 0 where they are used. */
    @Says("7. No call may ever throw by itself .. a divisor before it divides")
    static void divisors() {
        Set<String> tested = Set.of("right", "k", "apart", "mass", "weight");
        for (TreePath place : source.all(BinaryTree.class)) {
            BinaryTree two = (BinaryTree) place.getLeaf();
            if (two.getKind() == Tree.Kind.DIVIDE || two.getKind() == Tree.Kind.REMAINDER) {
                isDivisor(place, two.getRightOperand(), tested);
            }
        }
        for (TreePath place : source.all(CompoundAssignmentTree.class)) {
            CompoundAssignmentTree one = (CompoundAssignmentTree) place.getLeaf();
            if (one.getKind() == Tree.Kind.DIVIDE_ASSIGNMENT || one.getKind() == Tree.Kind.REMAINDER_ASSIGNMENT) {
                isDivisor(place, one.getExpression(), Set.of());
            }
        }
    }

    private static void isDivisor(TreePath place, ExpressionTree divisor, Set<String> tested) {
        boolean written = divisor instanceof LiteralTree number && !number.getValue().equals(0);
        Element named = divisor instanceof LiteralTree ? null : source.elementOf(place, divisor);
        boolean constant = named instanceof VariableElement field && field.getConstantValue() instanceof Integer value
            && value != 0;
        Edges.due(place.getLeaf() + " divides by what is tested",
            written || constant || tested.contains(divisor.toString()), true);
    }

    @Says("8. Recursion: .. private methods that call one another; .. the depth is carried as an argument")
    static void recursion() {
        int recursive = 0;
        for (ExecutableElement method : source.methods().keySet()) {
            if (source.isRecursive(method)) {
                recursive++;
                Edges.due(method + " is private", method.getModifiers().contains(Modifier.PRIVATE), true);
                Edges.due(method + " is told its depth", method.getParameters().stream()
                    .anyMatch(told -> told.getSimpleName().contentEquals("depth")), true);
            }
        }
        Edges.due("the readers of a PULL", recursive, 8);
    }

    // ---- rules 10 to 12 ----

    @Says("10. .. joining texts by StringBuilder (not by +)")
    static void joinedTexts() {
        for (TreePath place : source.all(BinaryTree.class)) {
            String type = source.typeOf(place.getParentPath(), place.getLeaf()).toString();
            Edges.due(place.getLeaf() + " is a text", type.equals("java.lang.String"), false);
        }
    }

    @Says("11. A method takes at most seven parameters. Methods stay short (some sixty lines)")
    static void methodsAreSmall() {
        source.methods().forEach((method, tree) -> {
            Edges.due(method + " takes at most seven", method.getParameters().size() <= MOST_PARAMETERS, true);
            Edges.due(method + " is short", source.linesOf(tree) <= MOST_LINES, true);
        });
    }

    @Says("11. .. calls that are no recursion go at most eight deep")
    static void callsAreNotDeep() {
        for (ExecutableElement method : source.methods().keySet()) {
            if (method.getModifiers().contains(Modifier.PUBLIC)) {
                int deep = source.deepestFrom(method, Set.of());
                Edges.due(method + " goes " + deep + " deep", deep <= DEEPEST, true);
            }
        }
    }

    @Says("11. .. the file has at most some twelve classes, and a class some twenty fields beside its constants")
    static void classesAreFew() {
        Set<String> classes = source.namesOfClasses();
        Edges.due("classes " + classes, classes.size() <= MOST_CLASSES, true);
        for (TreePath place : source.all(ClassTree.class)) {
            List<String> fields = source.elementAt(place).getEnclosedElements().stream()
                .filter(field -> field.getKind() == ElementKind.FIELD && !field.getModifiers().contains(Modifier.STATIC))
                .map(Object::toString).toList();
            Edges.due("fields of " + source.elementAt(place) + " " + fields, fields.size() <= MOST_FIELDS, true);
        }
    }

    @Says("12. .. What a run makes is counted: no call makes an object but the exception of isle")
    static void nothingIsMade() {
        for (TreePath place : source.all(NewClassTree.class)) {
            boolean thrown = place.getParentPath().getLeaf() instanceof ThrowTree;
            Edges.due(place.getLeaf() + " is made at first, or thrown", thrown || isMadeAtFirst(place), true);
        }
        for (TreePath place : source.all(NewArrayTree.class)) {
            Edges.due(place.getLeaf() + " is made at first", isMadeAtFirst(place), true);
        }
    }

    private static boolean isMadeAtFirst(TreePath place) {
        ExecutableElement in = source.methodAround(place);
        return in == null || in.getKind() == ElementKind.CONSTRUCTOR;
    }

    @Says("12. .. A constructor .. hands out nothing of the object that it makes")
    static void nothingIsHandedOut() {
        for (TreePath place : source.all(IdentifierTree.class)) {
            ExecutableElement in = source.methodAround(place);
            boolean isThis = ((IdentifierTree) place.getLeaf()).getName().contentEquals("this");
            boolean ofMember = place.getParentPath().getLeaf() instanceof MemberSelectTree;
            Edges.due("this stands bare in " + in, isThis && !ofMember, false);
        }
        for (TreePath place : source.all(MethodInvocationTree.class)) {
            ExecutableElement in = source.methodAround(place);
            boolean own = source.isOwn(source.elementAt(place));
            Edges.due(place.getLeaf() + " in a constructor", own && in != null && in.getKind() == ElementKind.CONSTRUCTOR, false);
        }
    }

    /** Statements that the rules do not name, so that a new one is read by somebody. */
    @Says("10. if, else, for, for over an array, while, do, switch on numbers and on enums, break, continue, labels .. are all fine")
    static void statements() {
        Set<Tree.Kind> fine = Set.of(Tree.Kind.BLOCK, Tree.Kind.VARIABLE, Tree.Kind.EXPRESSION_STATEMENT, Tree.Kind.IF,
            Tree.Kind.FOR_LOOP, Tree.Kind.ENHANCED_FOR_LOOP, Tree.Kind.WHILE_LOOP, Tree.Kind.SWITCH, Tree.Kind.CASE,
            Tree.Kind.BREAK, Tree.Kind.CONTINUE, Tree.Kind.LABELED_STATEMENT, Tree.Kind.RETURN, Tree.Kind.THROW, Tree.Kind.CLASS);
        for (TreePath place : source.all(StatementTree.class)) {
            Edges.due("a statement of line " + source.lineOf(place.getLeaf()) + ", " + place.getLeaf().getKind(),
                fine.contains(place.getLeaf().getKind()), true);
        }
    }
}
