import com.sun.source.tree.BinaryTree;
import com.sun.source.tree.BlockTree;
import com.sun.source.tree.ClassTree;
import com.sun.source.tree.CompoundAssignmentTree;
import com.sun.source.tree.DoWhileLoopTree;
import com.sun.source.tree.ExpressionTree;
import com.sun.source.tree.ForLoopTree;
import com.sun.source.tree.MethodInvocationTree;
import com.sun.source.tree.MethodTree;
import com.sun.source.tree.NewClassTree;
import com.sun.source.tree.ParenthesizedTree;
import com.sun.source.tree.ThrowTree;
import com.sun.source.tree.Tree;
import com.sun.source.tree.VariableTree;
import com.sun.source.tree.WhileLoopTree;
import java.io.IOException;
import java.nio.file.Path;
import java.util.HashSet;
import java.util.List;
import java.util.Set;
import javax.lang.model.element.Element;
import javax.lang.model.element.ElementKind;
import javax.lang.model.element.ExecutableElement;
import javax.lang.model.element.Modifier;
import javax.lang.model.element.VariableElement;
import javax.lang.model.type.ArrayType;
import javax.lang.model.type.TypeKind;
import javax.lang.model.type.TypeMirror;

/**
 * The rules of ../shared/LANGUAGE.md, as far as the compiler's view of the file tells whether they are kept.
 * Where they allow more than the program uses, this allows only what it uses.
 */
public final class LanguageTest {
    private static final Set<TypeKind> NUMBERS = Set.of(TypeKind.INT, TypeKind.LONG, TypeKind.SHORT,
            TypeKind.BYTE, TypeKind.CHAR);
    private static final Set<String> THROWN = Set.of("IllegalStateException", "IllegalArgumentException",
            "NoSuchElementException");
    private static final int MOST_PARAMETERS = 7;
    private static final int MOST_LINES = 60;
    private static final int MOST_DEEP = 8;
    private static final int MOST_CLASSES = 12;
    private static final int MOST_FIELDS = 20;

    private final Source source;

    private LanguageTest(Source read) {
        source = read;
    }

    public static void main(String[] args) throws IOException {
        LanguageTest test = new LanguageTest(Source.of(Path.of("src/main/java/BallotDesk.java")));
        test.classesInside();
        test.kindsOfCode();
        test.types();
        test.library();
        test.staticFields();
        test.exceptions();
        test.loops();
        test.texts();
        test.sizes();
        test.depths();
        test.constructors();
        Check.end();
    }

    private void keep(int rule, Tree tree, boolean kept) {
        Check.due("rule " + rule + " is kept at " + source.where(tree), kept, true);
    }

    /** Rule 2, and of rule 1 that classes inside are private or package-visible and static. */
    private void classesInside() {
        for (ClassTree inside : source.classes.subList(1, source.classes.size())) {
            Set<Modifier> flags = inside.getModifiers().getFlags();
            keep(1, inside, flags.contains(Modifier.STATIC));
            keep(1, inside, !flags.contains(Modifier.PUBLIC) && !flags.contains(Modifier.PROTECTED));
            keep(2, inside, source.parent(inside) == source.classes.get(0));
        }
    }

    /** The program catches nothing, so that of rule 6's try nothing is to be looked at. */
    private void kindsOfCode() {
        for (Tree tree : source.all) {
            Tree.Kind kind = tree.getKind();
            keep(2, tree, kind != Tree.Kind.LAMBDA_EXPRESSION && kind != Tree.Kind.MEMBER_REFERENCE);
            keep(6, tree, kind != Tree.Kind.SYNCHRONIZED && kind != Tree.Kind.ASSERT && kind != Tree.Kind.TRY);
        }
    }

    private void types() {
        for (VariableTree variable : source.variables) {
            keep(3, variable, isType(source.type(variable)));
        }
        for (MethodTree method : source.methods) {
            TypeMirror answer = ((ExecutableElement) source.element(method)).getReturnType();
            keep(3, method, answer.getKind() == TypeKind.VOID || isType(answer));
        }
    }

    private boolean isType(TypeMirror type) {
        if (type.getKind() != TypeKind.ARRAY) {
            return isPlain(type);
        }
        TypeMirror inner = ((ArrayType) type).getComponentType();
        return inner.getKind() == TypeKind.ARRAY ? isNumbers(inner) : isPlain(inner);
    }

    private boolean isPlain(TypeMirror type) {
        return NUMBERS.contains(type.getKind()) || type.getKind() == TypeKind.BOOLEAN
                || type.getKind() == TypeKind.DECLARED && type.toString().startsWith("BallotDesk");
    }

    private static boolean isNumbers(TypeMirror type) {
        return type.getKind() == TypeKind.ARRAY && NUMBERS.contains(((ArrayType) type).getComponentType().getKind());
    }

    /** Rule 4, and with it 13: nothing of the library but what it lists, be it a call or a constant. */
    private void library() {
        for (Tree tree : source.all) {
            if (tree.getKind() == Tree.Kind.METHOD_INVOCATION || tree.getKind() == Tree.Kind.NEW_CLASS) {
                Element called = source.element(tree);
                keep(4, tree, source.isOwn(called) || isListed((ExecutableElement) called));
            } else if (tree.getKind() == Tree.Kind.MEMBER_SELECT || tree.getKind() == Tree.Kind.IDENTIFIER) {
                Element named = source.element(tree);
                boolean isField = named != null && named.getKind() == ElementKind.FIELD;
                keep(4, tree, !isField || source.isOwn(named) || named.getSimpleName().contentEquals("length"));
            }
        }
    }

    private static boolean isListed(ExecutableElement called) {
        String owner = called.getEnclosingElement().getSimpleName().toString();
        String name = called.getSimpleName().toString();
        switch (owner) {
            case "Math":
            case "Integer":
            case "Long":
                return called.getModifiers().contains(Modifier.STATIC) && takesIntegers(called) && !name.endsWith("Exact");
            case "Arrays":
                return Set.of("fill", "copyOf", "copyOfRange").contains(name)
                        && isNumbers(called.getParameters().get(0).asType());
            case "System":
                return name.equals("arraycopy");
            case "Object":
                return called.getKind() == ElementKind.CONSTRUCTOR;
            default:
                return THROWN.contains(owner) && called.getKind() == ElementKind.CONSTRUCTOR;
        }
    }

    private static boolean takesIntegers(ExecutableElement called) {
        for (VariableElement parameter : called.getParameters()) {
            TypeKind kind = parameter.asType().getKind();
            if (kind != TypeKind.INT && kind != TypeKind.LONG) {
                return false;
            }
        }
        return true;
    }

    private void staticFields() {
        for (VariableTree variable : source.variables) {
            Set<Modifier> flags = variable.getModifiers().getFlags();
            if (flags.contains(Modifier.STATIC)) {
                keep(5, variable, flags.contains(Modifier.FINAL));
                keep(5, variable, ((VariableElement) source.element(variable)).getConstantValue() != null);
            }
        }
        for (Tree tree : source.all) {
            keep(5, tree, tree.getKind() != Tree.Kind.BLOCK || !((BlockTree) tree).isStatic());
        }
    }

    private void exceptions() {
        for (Tree tree : source.all) {
            if (tree.getKind() == Tree.Kind.THROW) {
                ExpressionTree thrown = ((ThrowTree) tree).getExpression();
                keep(6, tree, thrown.getKind() == Tree.Kind.NEW_CLASS && isThrown((NewClassTree) thrown));
                Tree above = source.parent(tree);
                while (above.getKind() != Tree.Kind.METHOD) {
                    above = source.parent(above);
                }
                keep(6, tree, !source.isConstructor((MethodTree) above));
            }
        }
    }

    private static boolean isThrown(NewClassTree made) {
        List<? extends ExpressionTree> told = made.getArguments();
        boolean plain = told.isEmpty() || told.size() == 1 && told.get(0).getKind() == Tree.Kind.STRING_LITERAL;
        return plain && THROWN.contains(made.getIdentifier().toString()) && made.getClassBody() == null;
    }

    /** Rule 9, so far as it can be seen: every loop asks something before it goes on. */
    private void loops() {
        for (Tree tree : source.all) {
            if (tree.getKind() == Tree.Kind.FOR_LOOP) {
                keep(9, tree, isAsked(((ForLoopTree) tree).getCondition()));
            } else if (tree.getKind() == Tree.Kind.WHILE_LOOP) {
                keep(9, tree, isAsked(((WhileLoopTree) tree).getCondition()));
            } else if (tree.getKind() == Tree.Kind.DO_WHILE_LOOP) {
                keep(9, tree, isAsked(((DoWhileLoopTree) tree).getCondition()));
            }
        }
    }

    private static boolean isAsked(ExpressionTree condition) {
        ExpressionTree bare = condition;
        while (bare != null && bare.getKind() == Tree.Kind.PARENTHESIZED) {
            bare = ((ParenthesizedTree) bare).getExpression();
        }
        return bare != null && bare.getKind() != Tree.Kind.BOOLEAN_LITERAL;
    }

    private void texts() {
        for (Tree tree : source.all) {
            if (tree instanceof BinaryTree || tree instanceof CompoundAssignmentTree) {
                keep(10, tree, source.type(tree).getKind() != TypeKind.DECLARED);
            }
        }
    }

    private void sizes() {
        keep(11, source.classes.get(0), source.classes.size() <= MOST_CLASSES);
        for (MethodTree method : source.methods) {
            keep(11, method, method.getParameters().size() <= MOST_PARAMETERS);
            keep(11, method, source.isImplied(method) || source.lines(method) <= MOST_LINES);
        }
        for (ClassTree inside : source.classes) {
            int fields = 0;
            for (Tree member : inside.getMembers()) {
                if (member.getKind() == Tree.Kind.VARIABLE
                        && !((VariableTree) member).getModifiers().getFlags().contains(Modifier.STATIC)) {
                    fields++;
                }
            }
            keep(11, inside, fields <= MOST_FIELDS);
        }
    }

    /** Rules 8 and 11: nothing calls itself, and no call of the face goes too deep, the library's counted. */
    private void depths() {
        for (MethodTree method : source.methods) {
            int deep = source.depth(source.element(method), new HashSet<>());
            keep(8, method, deep > 0);
            keep(11, method, deep <= MOST_DEEP);
        }
    }

    private void constructors() {
        for (Tree tree : source.all) {
            if (isCall(tree) && isInConstructor(tree)) {
                for (ExpressionTree argument : arguments(tree)) {
                    Element handed = source.element(argument);
                    keep(12, tree, handed == null || !isOfObject(handed));
                }
                keep(12, tree, cannotBeOverridden((ExecutableElement) source.element(tree)));
            }
        }
    }

    private static boolean isCall(Tree tree) {
        return tree.getKind() == Tree.Kind.METHOD_INVOCATION || tree.getKind() == Tree.Kind.NEW_CLASS;
    }

    private static List<? extends ExpressionTree> arguments(Tree call) {
        return call instanceof NewClassTree ? ((NewClassTree) call).getArguments()
                : ((MethodInvocationTree) call).getArguments();
    }

    /** A field's initialiser runs in the constructor too. */
    private boolean isInConstructor(Tree tree) {
        Tree above = source.parent(tree);
        while (above.getKind() != Tree.Kind.METHOD && above.getKind() != Tree.Kind.CLASS) {
            above = source.parent(above);
        }
        return above.getKind() == Tree.Kind.CLASS || source.isConstructor((MethodTree) above);
    }

    private static boolean isOfObject(Element handed) {
        return handed.getSimpleName().contentEquals("this")
                || handed.getKind() == ElementKind.FIELD && !handed.getModifiers().contains(Modifier.STATIC);
    }

    private static boolean cannotBeOverridden(ExecutableElement called) {
        Set<Modifier> flags = called.getModifiers();
        return called.getKind() == ElementKind.CONSTRUCTOR || flags.contains(Modifier.STATIC)
                || flags.contains(Modifier.PRIVATE) || flags.contains(Modifier.FINAL)
                || called.getEnclosingElement().getModifiers().contains(Modifier.FINAL);
    }
}
