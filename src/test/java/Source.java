import com.sun.source.tree.ClassTree;
import com.sun.source.tree.CompilationUnitTree;
import com.sun.source.tree.MethodInvocationTree;
import com.sun.source.tree.MethodTree;
import com.sun.source.tree.Tree;
import com.sun.source.util.JavacTask;
import com.sun.source.util.TreePath;
import com.sun.source.util.TreePathScanner;
import com.sun.source.util.Trees;
import java.io.File;
import java.io.IOException;
import java.util.ArrayList;
import java.util.HashMap;
import java.util.HashSet;
import java.util.LinkedHashMap;
import java.util.LinkedHashSet;
import java.util.List;
import java.util.Map;
import java.util.Set;
import java.util.TreeSet;
import javax.lang.model.element.Element;
import javax.lang.model.element.ExecutableElement;
import javax.lang.model.type.TypeMirror;
import javax.tools.JavaCompiler;
import javax.tools.StandardJavaFileManager;
import javax.tools.ToolProvider;

/** The source of DriftSea as javac reads it: what the rules of LANGUAGE.md are held against. */
final class Source {
    private final CompilationUnitTree unit;
    private final Trees trees;
    private final List<TreePath> places = new ArrayList<>();
    private final Map<ExecutableElement, MethodTree> methods = new LinkedHashMap<>();
    private final Map<ExecutableElement, Set<ExecutableElement>> calls = new HashMap<>();

    Source(String file) throws IOException {
        JavaCompiler compiler = ToolProvider.getSystemJavaCompiler();
        StandardJavaFileManager files = compiler.getStandardFileManager(null, null, null);
        JavacTask task = (JavacTask) compiler.getTask(null, files, null, List.of("-proc:none"), null,
            files.getJavaFileObjects(new File(file)));
        unit = task.parse().iterator().next();
        task.analyze();
        trees = Trees.instance(task);
        new TreePathScanner<Void, Void>() {
            @Override
            public Void scan(Tree tree, Void nothing) {
                if (tree != null) {
                    places.add(getCurrentPath() == null ? new TreePath(unit) : new TreePath(getCurrentPath(), tree));
                }
                return super.scan(tree, nothing);
            }
        }.scan(new TreePath(unit), null);
        findCalls();
    }

    private void findCalls() {
        for (TreePath place : places) {
            if (place.getLeaf() instanceof MethodTree method) {
                methods.put((ExecutableElement) elementAt(place), method);
            }
        }
        for (TreePath place : places) {
            ExecutableElement in = methodAround(place);
            if (in != null && elementAt(place) instanceof ExecutableElement called
                    && place.getLeaf() instanceof MethodInvocationTree) {
                calls.computeIfAbsent(in, any -> new LinkedHashSet<>()).add(called);
            }
        }
    }

    CompilationUnitTree unit() {
        return unit;
    }

    /** Every tree of a sort, with all that is around it. */
    List<TreePath> all(Class<? extends Tree> sort) {
        return places.stream().filter(place -> sort.isInstance(place.getLeaf())).toList();
    }

    Map<ExecutableElement, MethodTree> methods() {
        return methods;
    }

    Element elementAt(TreePath place) {
        return trees.getElement(place);
    }

    Element elementOf(TreePath around, Tree inside) {
        return trees.getElement(new TreePath(around, inside));
    }

    TypeMirror typeOf(TreePath around, Tree inside) {
        return trees.getTypeMirror(new TreePath(around, inside));
    }

    long lineOf(Tree tree) {
        return unit.getLineMap().getLineNumber(trees.getSourcePositions().getStartPosition(unit, tree));
    }

    int linesOf(Tree tree) {
        long end = trees.getSourcePositions().getEndPosition(unit, tree);
        return (int) (unit.getLineMap().getLineNumber(end) - lineOf(tree) + 1);
    }

    boolean isOwn(Element element) {
        for (Element around = element; around != null; around = around.getEnclosingElement()) {
            if (around.getSimpleName().contentEquals("DriftSea")) {
                return true;
            }
        }
        return false;
    }

    ExecutableElement methodAround(TreePath place) {
        for (TreePath around = place; around != null; around = around.getParentPath()) {
            if (around.getLeaf() instanceof MethodTree) {
                return (ExecutableElement) elementAt(around);
            }
        }
        return null;
    }

    Set<ExecutableElement> calledBy(ExecutableElement method) {
        return calls.getOrDefault(method, Set.of());
    }

    boolean isRecursive(ExecutableElement method) {
        return reaches(method, method);
    }

    private boolean reaches(ExecutableElement from, ExecutableElement to) {
        Set<ExecutableElement> known = new HashSet<>();
        List<ExecutableElement> left = new ArrayList<>(calledBy(from));
        while (!left.isEmpty()) {
            ExecutableElement next = left.remove(left.size() - 1);
            if (next.equals(to)) {
                return true;
            }
            if (known.add(next)) {
                left.addAll(calledBy(next));
            }
        }
        return false;
    }

    /** The longest row of calls from a method on, itself and the library's counted, those of a recursion once. */
    int deepestFrom(ExecutableElement method, Set<ExecutableElement> open) {
        int deepest = 0;
        Set<ExecutableElement> inside = new HashSet<>(open);
        inside.add(method);
        for (ExecutableElement next : calledBy(method)) {
            if (!inside.contains(next)) {
                boolean again = reaches(method, next) && reaches(next, method);
                deepest = Math.max(deepest, deepestFrom(next, inside) - (again ? 1 : 0));
            }
        }
        return deepest + 1;
    }

    Set<String> namesOfClasses() {
        Set<String> names = new TreeSet<>();
        for (TreePath place : all(ClassTree.class)) {
            names.add(((ClassTree) place.getLeaf()).getSimpleName().toString());
        }
        return names;
    }
}
