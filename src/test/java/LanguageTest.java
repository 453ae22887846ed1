import com.sun.source.tree.ArrayTypeTree;
import com.sun.source.tree.ClassTree;
import com.sun.source.tree.CompilationUnitTree;
import com.sun.source.tree.ExpressionTree;
import com.sun.source.tree.IdentifierTree;
import com.sun.source.tree.MethodInvocationTree;
import com.sun.source.tree.MethodTree;
import com.sun.source.tree.NewArrayTree;
import com.sun.source.tree.PrimitiveTypeTree;
import com.sun.source.tree.Tree;
import com.sun.source.tree.TypeCastTree;
import com.sun.source.tree.VariableTree;
import com.sun.source.util.JavacTask;
import com.sun.source.util.TreeScanner;
import com.sun.source.util.Trees;
import java.io.File;
import java.io.IOException;
import java.util.EnumSet;
import java.util.HashMap;
import java.util.Map;
import java.util.Set;
import java.util.TreeSet;
import javax.lang.model.element.Modifier;
import javax.lang.model.type.TypeKind;
import javax.tools.JavaCompiler;
import javax.tools.StandardJavaFileManager;
import javax.tools.ToolProvider;

/** Rules 2, 3, 4, 6, 8 and 10 of LANGUAGE.md, as far as the words of the source tell whether they are kept. */
public final class LanguageTest {
    private static final File SOURCE = new File("src/main/java/ExtentVolume.java");
    private static final int MOST_LINES = 60;
    private static final int MOST_DEEP = 6;
    private static final int MOST_FIELDS = 40;

    // The class needs no member of anything: each field and method is its own and is named alone.
    private static final Set<Tree.Kind> RULED_OUT = EnumSet.of(
        Tree.Kind.MEMBER_SELECT, Tree.Kind.IMPORT, Tree.Kind.PACKAGE, Tree.Kind.NEW_CLASS, Tree.Kind.STRING_LITERAL,
        Tree.Kind.NULL_LITERAL, Tree.Kind.FLOAT_LITERAL, Tree.Kind.DOUBLE_LITERAL, Tree.Kind.THROW, Tree.Kind.TRY,
        Tree.Kind.SYNCHRONIZED, Tree.Kind.ASSERT, Tree.Kind.INSTANCE_OF, Tree.Kind.LAMBDA_EXPRESSION,
        Tree.Kind.MEMBER_REFERENCE, Tree.Kind.INTERFACE, Tree.Kind.ENUM, Tree.Kind.RECORD);

    private static CompilationUnitTree unit;
    private static Trees trees;
    private static ClassTree type;
    private static final Map<String, Set<String>> calls = new HashMap<>();

    public static void main(String[] args) throws IOException {
        parse();
        nothingThatIsRuledOut();
        plainTypes();
        arraysInFields();
        methodsAndTheirCalls();
        callsDoNotGoDeep();
        Check.end();
    }

    private static void parse() throws IOException {
        JavaCompiler compiler = ToolProvider.getSystemJavaCompiler();
        try (StandardJavaFileManager files = compiler.getStandardFileManager(null, null, null)) {
            JavacTask task = (JavacTask) compiler.getTask(
                null, files, null, null, null, files.getJavaFileObjects(SOURCE));
            unit = task.parse().iterator().next();
            trees = Trees.instance(task);
            Check.due("classes in the file", unit.getTypeDecls().size(), 1);
            type = (ClassTree) unit.getTypeDecls().get(0);
        }
    }

    private static void nothingThatIsRuledOut() {
        Check.sentence("rules 1, 2, 3 and 6");
        new TreeScanner<Void, Void>() {
            @Override
            public Void scan(Tree tree, Void none) {
                if (tree != null) {
                    Tree.Kind kind = tree.getKind();
                    Check.due(at(tree) + " " + kind + " is ruled out", RULED_OUT.contains(kind), false);
                }
                return super.scan(tree, none);
            }
        }.scan(unit, null);
    }

    private static void plainTypes() {
        Check.sentence("rule 2: whole numbers, and one-dimensional arrays of these");
        new TreeScanner<Void, Void>() {
            @Override
            public Void visitVariable(VariableTree variable, Void none) {
                Check.due(at(variable) + " " + variable.getName() + " is plain", isPlain(variable.getType()), true);
                return super.visitVariable(variable, none);
            }

            @Override
            public Void visitTypeCast(TypeCastTree cast, Void none) {
                Check.due(at(cast) + " a cast to a number", isNumber(cast.getType()), true);
                return super.visitTypeCast(cast, none);
            }
        }.scan(unit, null);
    }

    private static boolean isPlain(Tree of) {
        return isNumber(of instanceof ArrayTypeTree ? ((ArrayTypeTree) of).getType() : of);
    }

    private static boolean isNumber(Tree of) {
        if (!(of instanceof PrimitiveTypeTree)) {
            return false;
        }
        TypeKind kind = ((PrimitiveTypeTree) of).getPrimitiveTypeKind();
        return kind != TypeKind.FLOAT && kind != TypeKind.DOUBLE;
    }

    private static void arraysInFields() {
        Check.sentence("rules 4 and 10: fields, and arrays made in their initialisers");
        int fields = 0;
        for (Tree member : type.getMembers()) {
            if (member instanceof VariableTree) {
                VariableTree field = (VariableTree) member;
                Set<Modifier> modifiers = field.getModifiers().getFlags();
                fields += modifiers.contains(Modifier.STATIC) ? 0 : 1;
                if (field.getType() instanceof ArrayTypeTree) {
                    Check.due(field.getName() + " is final", modifiers.contains(Modifier.FINAL), true);
                    Check.due(field.getName() + " has its length", isMadeWithLength(field.getInitializer()), true);
                }
            } else {
                Check.due(at(member) + " is a field or a method", member instanceof MethodTree, true);
                noArrayIsMadeIn(member);
            }
        }
        Check.due("some forty fields", fields <= MOST_FIELDS, true);
    }

    private static boolean isMadeWithLength(ExpressionTree made) {
        if (!(made instanceof NewArrayTree) || ((NewArrayTree) made).getDimensions().size() != 1) {
            return false;
        }
        // The compiler has seen to it that the name is known; FaceTest sees that static fields are constants.
        Tree.Kind length = ((NewArrayTree) made).getDimensions().get(0).getKind();
        return length == Tree.Kind.IDENTIFIER || length == Tree.Kind.INT_LITERAL;
    }

    private static void noArrayIsMadeIn(Tree method) {
        new TreeScanner<Void, Void>() {
            @Override
            public Void visitNewArray(NewArrayTree made, Void none) {
                Check.due(at(made) + " a method makes no array", true, false);
                return super.visitNewArray(made, none);
            }
        }.scan(method, null);
    }

    private static void methodsAndTheirCalls() {
        Check.sentence("rule 10: short methods, and no call inside the arguments of another");
        for (Tree member : type.getMembers()) {
            if (member instanceof MethodTree) {
                MethodTree method = (MethodTree) member;
                String name = method.getName().toString();
                Check.due(name + " is the only one of its name", calls.containsKey(name), false);
                Check.due(name + " is short", lines(method) <= MOST_LINES, true);
                calls.put(name, callsIn(method));
            }
        }
    }

    private static Set<String> callsIn(Tree tree) {
        Set<String> names = new TreeSet<>();
        new TreeScanner<Void, Void>() {
            @Override
            public Void visitMethodInvocation(MethodInvocationTree call, Void none) {
                Check.due(at(call) + " is called by its name", call.getMethodSelect() instanceof IdentifierTree, true);
                names.add(call.getMethodSelect().toString());
                for (ExpressionTree argument : call.getArguments()) {
                    Check.due(at(call) + " calls inside its arguments", callsIn(argument).size(), 0);
                }
                return super.visitMethodInvocation(call, none);
            }
        }.scan(tree, null);
        return names;
    }

    private static void callsDoNotGoDeep() {
        Check.sentence("rules 3, 8 and 10: calls of own methods, without recursion, six deep at most");
        for (String name : calls.keySet()) {
            Check.due(name + " goes six deep at most", depth(name, 1) <= MOST_DEEP, true);
        }
    }

    // Recursion would go deeper than any bound, so it is seen as too deep.
    private static int depth(String name, int above) {
        int deepest = above;
        if (above > MOST_DEEP) {
            return deepest;
        }
        Check.due(name + " is a method of the class", calls.containsKey(name), true);
        for (String called : calls.getOrDefault(name, Set.of())) {
            deepest = Math.max(deepest, depth(called, above + 1));
        }
        return deepest;
    }

    private static long line(long position) {
        return unit.getLineMap().getLineNumber(position);
    }

    private static int lines(Tree tree) {
        long first = line(trees.getSourcePositions().getStartPosition(unit, tree));
        return (int) (line(trees.getSourcePositions().getEndPosition(unit, tree)) - first + 1);
    }

    private static String at(Tree tree) {
        long position = trees.getSourcePositions().getStartPosition(unit, tree);
        return "line " + (position < 0 ? "?" : line(position));
    }
}
