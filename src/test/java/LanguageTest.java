import com.sun.source.tree.AssertTree;
import com.sun.source.tree.BinaryTree;
import com.sun.source.tree.BlockTree;
import com.sun.source.tree.ClassTree;
import com.sun.source.tree.CompilationUnitTree;
import com.sun.source.tree.ImportTree;
import com.sun.source.tree.LambdaExpressionTree;
import com.sun.source.tree.MemberReferenceTree;
import com.sun.source.tree.MemberSelectTree;
import com.sun.source.tree.MethodInvocationTree;
import com.sun.source.tree.MethodTree;
import com.sun.source.tree.NewClassTree;
import com.sun.source.tree.SynchronizedTree;
import com.sun.source.tree.ThrowTree;
import com.sun.source.tree.Tree;
import com.sun.source.tree.TryTree;
import com.sun.source.tree.VariableTree;
import com.sun.source.util.JavacTask;
import com.sun.source.util.TreeScanner;
import java.nio.charset.StandardCharsets;
import java.nio.file.Files;
import java.nio.file.Path;
import java.util.ArrayList;
import java.util.Arrays;
import java.util.HashMap;
import java.util.HashSet;
import java.util.List;
import java.util.Map;
import java.util.Set;
import javax.lang.model.element.Modifier;
import javax.tools.JavaCompiler;
import javax.tools.StandardJavaFileManager;
import javax.tools.ToolProvider;

/**
 * What can be counted of the rules of LANGUAGE.md, in the source of the class. It is narrower
 * than the rules where the class needs less: it has no try, and no call that comes to itself.
 * Run in the project's folder.
 */
public final class LanguageTest extends TreeScanner<Void, Void> {
    private static final Path SOURCE = Path.of("src/main/java/RiddlePress.java");
    private static final List<String> IMPORTS = Arrays.asList("java.util.ArrayList",
            "java.util.Arrays", "java.util.Iterator", "java.util.List",
            "java.util.NoSuchElementException");
    private static final List<String> LIBRARY = Arrays.asList("length", "charAt", "isEmpty",
            "equals", "indexOf", "substring", "toCharArray", "append", "setCharAt", "setLength",
            "deleteCharAt", "reverse", "toString", "add", "get", "set", "remove", "size", "clear",
            "compare", "max", "min", "abs", "bitCount", "floorDiv", "floorMod", "arraycopy",
            "copyOf", "copyOfRange", "fill", "clone", "ArrayList", "StringBuilder");
    private static final List<String> EXCEPTIONS = Arrays.asList("IllegalStateException",
            "IllegalArgumentException", "IndexOutOfBoundsException", "ArithmeticException",
            "UnsupportedOperationException", "NoSuchElementException", "RuntimeException");
    private static final List<String> CONSTANTS = Arrays.asList("int", "long", "boolean", "char",
            "String", "int[]", "long[]", "char[]", "byte[]");
    private static final String CONSTRUCTOR = "<init>";
    private static final int MOST_CLASSES = 12;
    private static final int MOST_FIELDS = 20;
    private static final int MOST_LINES = 60;
    private static final int MOST_PARAMETERS = 7;
    private static final int MOST_DEPTH = 8;

    /** By the names of own methods, or of classes for constructors: the names of all called. */
    private final Map<String, Set<String>> calls = new HashMap<>();
    private final List<String> classes = new ArrayList<>();
    private String owner = "";
    private String caller = "";

    public static void main(String[] args) throws Exception {
        String text = Files.readString(SOURCE, StandardCharsets.UTF_8);
        Due.is("rule 4: signs", true, () -> text.chars().allMatch(c -> c > 0 && c < 128));
        JavaCompiler compiler = ToolProvider.getSystemJavaCompiler();
        StandardJavaFileManager files = compiler.getStandardFileManager(null, null, null);
        JavacTask task = (JavacTask) compiler.getTask(null, files, null, null, null,
                files.getJavaFileObjects(SOURCE));
        for (CompilationUnitTree file : task.parse()) {
            LanguageTest test = new LanguageTest();
            test.scan(file, null);
            test.checkFile(file);
        }
        Due.end();
    }

    private void checkFile(CompilationUnitTree file) {
        Due.is("no package", true, () -> file.getPackage() == null);
        Due.is("rule 1: one class", 1, () -> file.getTypeDecls().size());
        Due.is("rule 11: classes", true, () -> classes.size() <= MOST_CLASSES);
        for (String name : calls.keySet()) {
            Due.is("rules 8 and 11: depth of " + name, true,
                    () -> depthOf(name, 1) <= MOST_DEPTH);
            for (String called : calls.get(name)) {
                Due.is("rule 4: " + name + " calls " + called, true,
                        () -> calls.containsKey(called) || LIBRARY.contains(called)
                                || EXCEPTIONS.contains(called));
            }
        }
    }

    /** Returns how deep the calls go, those of the library too; a circle goes too deep. */
    private int depthOf(String name, int depth) {
        int deepest = depth;
        if (depth <= MOST_DEPTH) {
            for (String called : calls.getOrDefault(name, Set.of())) {
                deepest = Math.max(deepest, depthOf(called, depth + 1));
            }
        }
        return deepest;
    }

    @Override
    public Void visitImport(ImportTree tree, Void none) {
        String name = tree.getQualifiedIdentifier().toString();
        Due.is("rule 4: import " + name, true, () -> IMPORTS.contains(name));
        return null;
    }

    @Override
    public Void visitClass(ClassTree tree, Void none) {
        String name = tree.getSimpleName().toString();
        Set<Modifier> modifiers = tree.getModifiers().getFlags();
        Due.is("rules 1 and 2: class " + name, true,
                () -> modifiers.contains(classes.isEmpty() ? Modifier.PUBLIC : Modifier.STATIC));
        classes.add(name);
        int fields = 0;
        for (Tree member : tree.getMembers()) {
            Due.is("rule 5: block in " + name, false, () -> member instanceof BlockTree);
            if (member instanceof VariableTree field) {
                boolean isStatic = field.getModifiers().getFlags().contains(Modifier.STATIC);
                checkField(field, isStatic);
                fields += isStatic ? 0 : 1;
            }
        }
        int count = fields;
        Due.is("rule 11: fields of " + name, true, () -> count <= MOST_FIELDS);
        String outer = owner;
        owner = name;
        super.visitClass(tree, none);
        owner = outer;
        return null;
    }

    private static void checkField(VariableTree field, boolean isStatic) {
        if (isStatic) {
            Due.is("rule 5: " + field, true,
                    () -> field.getModifiers().getFlags().contains(Modifier.FINAL)
                            && CONSTANTS.contains(field.getType().toString()));
        }
    }

    @Override
    public Void visitMethod(MethodTree tree, Void none) {
        String name = tree.getName().contentEquals(CONSTRUCTOR) ? owner : tree.getName().toString();
        caller = name;
        calls.putIfAbsent(name, new HashSet<>());
        Due.is("rule 11: parameters of " + name, true,
                () -> tree.getParameters().size() <= MOST_PARAMETERS);
        Due.is("rule 11: lines of " + name, true,
                () -> tree.toString().lines().count() <= MOST_LINES);
        return super.visitMethod(tree, none);
    }

    @Override
    public Void visitMethodInvocation(MethodInvocationTree tree, Void none) {
        Tree called = tree.getMethodSelect();
        String name = called instanceof MemberSelectTree select
                ? select.getIdentifier().toString() : called.toString();
        if (!name.equals("super")) {
            calls.get(caller).add(name);
        }
        return super.visitMethodInvocation(tree, none);
    }

    @Override
    public Void visitNewClass(NewClassTree tree, Void none) {
        String name = tree.getIdentifier().toString();
        calls.get(caller).add(name.contains("<") ? name.substring(0, name.indexOf('<')) : name);
        return super.visitNewClass(tree, none);
    }

    @Override
    public Void visitThrow(ThrowTree tree, Void none) {
        boolean isNew = tree.getExpression() instanceof NewClassTree made
                && EXCEPTIONS.contains(made.getIdentifier().toString())
                && made.getArguments().size() <= 1
                && made.getArguments().stream()
                        .allMatch(words -> words.getKind() == Tree.Kind.STRING_LITERAL);
        Due.is("rule 6: " + tree, true, () -> isNew);
        Due.is("rule 6: no throw in a constructor", false, () -> classes.contains(caller));
        return super.visitThrow(tree, none);
    }

    @Override
    public Void visitBinary(BinaryTree tree, Void none) {
        Due.is("rule 10: " + tree, false, () -> tree.getKind() == Tree.Kind.PLUS
                && (tree.getLeftOperand().getKind() == Tree.Kind.STRING_LITERAL
                || tree.getRightOperand().getKind() == Tree.Kind.STRING_LITERAL));
        return super.visitBinary(tree, none);
    }

    @Override
    public Void visitTry(TryTree tree, Void none) {
        return refuse("rule 6: a try, in which an exception of the machine could be caught");
    }

    @Override
    public Void visitAssert(AssertTree tree, Void none) {
        return refuse("rule 6: an assert");
    }

    @Override
    public Void visitSynchronized(SynchronizedTree tree, Void none) {
        return refuse("rule 6: a synchronized");
    }

    @Override
    public Void visitLambdaExpression(LambdaExpressionTree tree, Void none) {
        return refuse("rule 2: a lambda");
    }

    @Override
    public Void visitMemberReference(MemberReferenceTree tree, Void none) {
        return refuse("rule 2: a method reference");
    }

    private static Void refuse(String what) {
        Due.is(what, false, () -> true);
        return null;
    }
}
