import com.sun.source.tree.ClassTree;
import com.sun.source.tree.CompilationUnitTree;
import com.sun.source.tree.MethodInvocationTree;
import com.sun.source.tree.MethodTree;
import com.sun.source.tree.NewClassTree;
import com.sun.source.tree.Tree;
import com.sun.source.tree.VariableTree;
import com.sun.source.util.JavacTask;
import com.sun.source.util.TreePath;
import com.sun.source.util.TreePathScanner;
import com.sun.source.util.Trees;
import java.io.IOException;
import java.nio.file.Path;
import java.util.ArrayList;
import java.util.HashMap;
import java.util.LinkedHashSet;
import java.util.List;
import java.util.Map;
import java.util.Set;
import javax.lang.model.element.Element;
import javax.lang.model.element.ElementKind;
import javax.lang.model.element.ExecutableElement;
import javax.lang.model.type.TypeMirror;
import javax.tools.JavaCompiler;
import javax.tools.StandardJavaFileManager;
import javax.tools.ToolProvider;

/** The one file of the program as the compiler reads it: what it declares, and who calls whom. */
final class Source {
    final List<ClassTree> classes = new ArrayList<>();
    final List<MethodTree> methods = new ArrayList<>();
    final List<VariableTree> variables = new ArrayList<>();
    final List<Tree> all = new ArrayList<>();
    private final Map<Tree, TreePath> paths = new HashMap<>();
    private final Map<Element, Set<ExecutableElement>> calls = new HashMap<>();
    private final Trees trees;
    private final CompilationUnitTree unit;

    private Source(Trees read, CompilationUnitTree file) {
        trees = read;
        unit = file;
    }

    static Source of(Path file) throws IOException {
        JavaCompiler compiler = ToolProvider.getSystemJavaCompiler();
        try (StandardJavaFileManager files = compiler.getStandardFileManager(null, null, null)) {
            JavacTask task = (JavacTask) compiler.getTask(null, files, null, List.of("-proc:none"), null,
                    files.getJavaFileObjects(file));
            CompilationUnitTree unit = task.parse().iterator().next();
            task.analyze();
            Source source = new Source(Trees.instance(task), unit);
            source.new Reader().scan(unit, null);
            return source;
        }
    }

    Element element(Tree tree) {
        return trees.getElement(paths.get(tree));
    }

    TypeMirror type(Tree tree) {
        return trees.getTypeMirror(paths.get(tree));
    }

    Tree parent(Tree tree) {
        TreePath above = paths.get(tree).getParentPath();
        return above == null ? null : above.getLeaf();
    }

    /** Whether the compiler wrote it: a constructor that the file does not spell out. */
    boolean isImplied(MethodTree method) {
        return isConstructor(method) && trees.getSourcePositions().getStartPosition(unit, method)
                == trees.getSourcePositions().getStartPosition(unit, parent(method));
    }

    boolean isConstructor(MethodTree method) {
        return element(method).getKind() == ElementKind.CONSTRUCTOR;
    }

    int lines(Tree tree) {
        long start = trees.getSourcePositions().getStartPosition(unit, tree);
        long end = trees.getSourcePositions().getEndPosition(unit, tree);
        return (int) (unit.getLineMap().getLineNumber(end) - unit.getLineMap().getLineNumber(start)) + 1;
    }

    String where(Tree tree) {
        long start = trees.getSourcePositions().getStartPosition(unit, tree);
        String text = tree.toString().strip();
        int end = text.indexOf('\n');
        return "line " + unit.getLineMap().getLineNumber(start) + " (" + (end < 0 ? text : text.substring(0, end)) + ")";
    }

    boolean isOwn(Element element) {
        Element at = element;
        while (at != null && at.getKind() != ElementKind.PACKAGE) {
            if (at.getKind() == ElementKind.CLASS && at.getSimpleName().contentEquals("BallotDesk")) {
                return true;
            }
            at = at.getEnclosingElement();
        }
        return false;
    }

    /** How many calls stand open at once below and with this one, those of the library counted; -1 in a circle. */
    int depth(Element method, Set<Element> open) {
        if (!open.add(method)) {
            return -1;
        }
        int deepest = 0;
        for (ExecutableElement called : calls.getOrDefault(method, Set.of())) {
            int below = depth(called, open);
            if (below < 0) {
                return below;
            }
            deepest = Math.max(deepest, below);
        }
        open.remove(method);
        return deepest + 1;
    }

    private final class Reader extends TreePathScanner<Void, Void> {
        @Override
        public Void scan(Tree tree, Void none) {
            if (tree != null) {
                paths.put(tree, new TreePath(getCurrentPath(), tree));
                all.add(tree);
            }
            return super.scan(tree, none);
        }

        @Override
        public Void visitClass(ClassTree tree, Void none) {
            classes.add(tree);
            return super.visitClass(tree, none);
        }

        @Override
        public Void visitMethod(MethodTree tree, Void none) {
            methods.add(tree);
            return super.visitMethod(tree, none);
        }

        @Override
        public Void visitVariable(VariableTree tree, Void none) {
            variables.add(tree);
            return super.visitVariable(tree, none);
        }

        @Override
        public Void visitMethodInvocation(MethodInvocationTree tree, Void none) {
            call();
            return super.visitMethodInvocation(tree, none);
        }

        @Override
        public Void visitNewClass(NewClassTree tree, Void none) {
            call();
            return super.visitNewClass(tree, none);
        }

        /** What initialises a field is called by every constructor of its class. */
        private void call() {
            ExecutableElement called = (ExecutableElement) trees.getElement(getCurrentPath());
            TreePath at = getCurrentPath();
            while (at.getLeaf().getKind() != Tree.Kind.METHOD && at.getLeaf().getKind() != Tree.Kind.CLASS) {
                at = at.getParentPath();
            }
            if (at.getLeaf().getKind() == Tree.Kind.METHOD) {
                put(trees.getElement(at), called);
                return;
            }
            for (Element member : trees.getElement(at).getEnclosedElements()) {
                if (member.getKind() == ElementKind.CONSTRUCTOR) {
                    put(member, called);
                }
            }
        }

        private void put(Element caller, ExecutableElement called) {
            calls.computeIfAbsent(caller, key -> new LinkedHashSet<>()).add(called);
        }
    }
}
