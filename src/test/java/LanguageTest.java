import com.sun.source.tree.*;
import com.sun.source.util.JavacTask;
import com.sun.source.util.TreePathScanner;
import java.nio.file.Files;
import java.nio.file.Path;
import java.util.List;
import java.util.Set;
import javax.lang.model.element.Modifier;
import javax.tools.JavaCompiler;
import javax.tools.StandardJavaFileManager;
import javax.tools.ToolProvider;

/**
 * The rules of LANGUAGE.md that can be seen in the text of the class, and that no call makes an
 * object: only fields, constructors and throws do. It is run in the project's folder.
 */
final class LanguageTest extends TreePathScanner<Void, Void> {
    private static final Path SOURCE = Path.of("src/main/java/DischargeRecorder.java");
    private static final Set<Tree.Kind> FORBIDDEN = Set.of(Tree.Kind.LAMBDA_EXPRESSION,
        Tree.Kind.MEMBER_REFERENCE, Tree.Kind.ASSERT, Tree.Kind.SYNCHRONIZED,
        Tree.Kind.PACKAGE);
    private static final Set<String> LIBRARY = Set.of("Math.abs", "Math.max", "Math.min",
        "System.arraycopy");
    private static final Set<String> THROWN = Set.of("IllegalArgumentException",
        "IllegalStateException", "IndexOutOfBoundsException");
    private static final Set<String> FACE = Set.of("set", "value", "block", "unblock", "record",
        "forget", "append", "clearText", "parse", "pulses", "pulse", "statuses", "count",
        "fullest", "feature", "asymmetry", "pattern", "similarity", "bursts", "burst",
        "interval", "firstAlarm", "statusesWith", "levelFor", "undo", "digest");

    private CompilationUnitTree unit;
    private LineMap lines;
    private JavacTask task;
    private int classes = 0;

    public static void main(String[] args) throws Exception {
        JavaCompiler compiler = ToolProvider.getSystemJavaCompiler();
        StandardJavaFileManager files = compiler.getStandardFileManager(null, null, null);
        LanguageTest scan = new LanguageTest();
        scan.task = (JavacTask) compiler.getTask(null, files, null, null, null,
            files.getJavaFileObjects(SOURCE));
        scan.unit = scan.task.parse().iterator().next();
        scan.lines = scan.unit.getLineMap();
        scan.scan(scan.unit, null);
        rule("11: at most twelve classes", scan.classes <= 12);
        rule("4: signs 1 to 127", Files.readString(SOURCE).chars().allMatch(c -> c > 0 && c < 128));
        Checks.end();
    }

    private static void rule(String what, boolean kept) {
        Checks.due("rule " + what, true, () -> kept);
    }

    private long line(Tree tree, boolean end) {
        var places = com.sun.source.util.Trees.instance(task).getSourcePositions();
        return lines.getLineNumber(end ? places.getEndPosition(unit, tree)
            : places.getStartPosition(unit, tree));
    }

    @Override
    public Void scan(Tree tree, Void none) {
        if (tree != null && FORBIDDEN.contains(tree.getKind())) {
            rule("2, 6: " + tree.getKind() + " in line " + line(tree, false), false);
        }
        return super.scan(tree, none);
    }

    @Override
    public Void visitClass(ClassTree tree, Void none) {
        classes++;
        boolean outer = getCurrentPath().getParentPath().getLeaf() == unit;
        Set<Modifier> flags = tree.getModifiers().getFlags();
        rule("1: " + tree.getSimpleName() + " is static and not public",
            outer || flags.contains(Modifier.STATIC) && !flags.contains(Modifier.PUBLIC));
        int fields = 0;
        for (Tree member : tree.getMembers()) {
            if (member instanceof VariableTree field) {
                Set<Modifier> its = field.getModifiers().getFlags();
                boolean isStatic = its.contains(Modifier.STATIC);
                fields += isStatic ? 0 : 1;
                rule("5: " + field.getName() + " is final", !isStatic
                    || its.contains(Modifier.FINAL));
                rule("1: " + field.getName() + " is private", its.contains(Modifier.PRIVATE)
                    || field.getName().contentEquals("NONE"));
            }
            rule("5: no initialiser block", !(member instanceof BlockTree));
        }
        rule("11: fields of " + tree.getSimpleName(), fields <= 20);
        return super.visitClass(tree, none);
    }

    @Override
    public Void visitMethod(MethodTree tree, Void none) {
        String name = tree.getName().toString();
        rule("11: length of " + name, line(tree, true) - line(tree, false) < 60);
        rule("11: parameters of " + name, tree.getParameters().size() <= 7);
        boolean isPublic = tree.getModifiers().getFlags().contains(Modifier.PUBLIC);
        rule("1: " + name + " is of the face or private", isPublic
            ? FACE.contains(name) || name.equals("<init>")
            : !FACE.contains(name) && tree.getModifiers().getFlags().contains(Modifier.PRIVATE));
        return super.visitMethod(tree, none);
    }

    /** A new one of the exceptions of the document, with a written text, and in no constructor. */
    @Override
    public Void visitThrow(ThrowTree tree, Void none) {
        String where = " in line " + line(tree, false);
        rule("6: exception" + where, tree.getExpression() instanceof NewClassTree made
            && THROWN.contains(made.getIdentifier().toString())
            && made.getArguments().stream().allMatch(a -> a.getKind() == Tree.Kind.STRING_LITERAL));
        for (Tree above : getCurrentPath()) {
            rule("6: no throw in a constructor" + where, !(above instanceof MethodTree method)
                || !method.getName().contentEquals("<init>"));
        }
        return super.visitThrow(tree, none);
    }

    @Override
    public Void visitNewClass(NewClassTree tree, Void none) {
        rule("12: object made in line " + line(tree, false), isMadeOnce());
        return super.visitNewClass(tree, none);
    }

    @Override
    public Void visitNewArray(NewArrayTree tree, Void none) {
        rule("12: array made in line " + line(tree, false), isMadeOnce());
        return super.visitNewArray(tree, none);
    }

    /** In the initialiser of a field, in a constructor, or thrown. */
    private boolean isMadeOnce() {
        for (Tree above : getCurrentPath()) {
            if (above instanceof ThrowTree) {
                return true;
            }
            if (above instanceof MethodTree method) {
                return method.getName().contentEquals("<init>");
            }
        }
        return true;
    }

    @Override
    public Void visitMethodInvocation(MethodInvocationTree tree, Void none) {
        String called = tree.getMethodSelect().toString();
        if (List.of("Math", "System", "Arrays", "Integer", "Long").contains(
                called.split("\\.")[0])) {
            rule("4: " + called, LIBRARY.contains(called));
        }
        return super.visitMethodInvocation(tree, none);
    }
}
