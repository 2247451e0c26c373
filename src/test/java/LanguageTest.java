import com.sun.source.tree.AssertTree;
import com.sun.source.tree.BinaryTree;
import com.sun.source.tree.BlockTree;
import com.sun.source.tree.ClassTree;
import com.sun.source.tree.CompilationUnitTree;
import com.sun.source.tree.ImportTree;
import com.sun.source.tree.LambdaExpressionTree;
import com.sun.source.tree.LineMap;
import com.sun.source.tree.MemberReferenceTree;
import com.sun.source.tree.MethodInvocationTree;
import com.sun.source.tree.MethodTree;
import com.sun.source.tree.NewClassTree;
import com.sun.source.tree.SynchronizedTree;
import com.sun.source.tree.ThrowTree;
import com.sun.source.tree.Tree;
import com.sun.source.tree.TryTree;
import com.sun.source.tree.TypeCastTree;
import com.sun.source.tree.VariableTree;
import com.sun.source.util.JavacTask;
import com.sun.source.util.TreePath;
import com.sun.source.util.TreePathScanner;
import com.sun.source.util.Trees;
import java.nio.file.Files;
import java.nio.file.Path;
import java.util.ArrayList;
import java.util.LinkedHashMap;
import java.util.LinkedHashSet;
import java.util.List;
import java.util.Map;
import java.util.Set;
import java.util.TreeSet;
import javax.lang.model.element.Element;
import javax.lang.model.element.ElementKind;
import javax.lang.model.element.ExecutableElement;
import javax.lang.model.element.Modifier;
import javax.lang.model.element.TypeElement;
import javax.lang.model.type.ArrayType;
import javax.lang.model.type.TypeMirror;
import javax.lang.model.util.ElementFilter;
import javax.tools.JavaCompiler;
import javax.tools.StandardJavaFileManager;
import javax.tools.ToolProvider;

/** Those rules of LANGUAGE.md that the source itself shows, looked at in the trees that javac makes of it. */
public final class LanguageTest extends TreePathScanner<Void, Void> {
    private static final Check CHECK = new Check("LanguageTest");
    private static final int DEEPEST = 8;
    private static final int CLASSES = 12;
    private static final int FIELDS = 20;
    private static final int PARAMETERS = 7;
    private static final int LINES = 60;
    /** Of rule 4, what the class has use for; more may be added from there. */
    private static final Set<String> LIBRARY = Set.of("String.length", "String.charAt", "Integer.bitCount", "Math.abs",
        "Math.min", "Math.max", "System.arraycopy", "Object.<init>");
    private static final Set<String> CONSTANTS = Set.of("int", "long", "boolean", "char", "java.lang.String", "int[]",
        "long[]", "char[]", "byte[]");

    private final Trees trees;
    private final JavacTask task;
    private final CompilationUnitTree unit;
    private final List<TypeElement> classes = new ArrayList<>();
    private final Map<ExecutableElement, Set<ExecutableElement>> calls = new LinkedHashMap<>();
    /** Of these calls, those that may reach a method of any class under the one named. */
    private final Map<ExecutableElement, Set<ExecutableElement>> wideCalls = new LinkedHashMap<>();
    private final Set<ExecutableElement> open = new LinkedHashSet<>();

    private LanguageTest(JavacTask task, CompilationUnitTree unit) {
        this.task = task;
        this.unit = unit;
        trees = Trees.instance(task);
    }

    private Element elementOf(Tree tree) {
        return trees.getElement(new TreePath(getCurrentPath(), tree));
    }

    private long lineOf(Tree tree) {
        LineMap lines = unit.getLineMap();
        return lines.getLineNumber(trees.getSourcePositions().getStartPosition(unit, tree));
    }

    private void no(int rule, String what, Tree tree) {
        CHECK.so("rule " + rule + ": " + what + " in line " + lineOf(tree), false);
    }

    private TypeMirror typeOf(Tree tree) {
        return trees.getTypeMirror(new TreePath(getCurrentPath(), tree));
    }

    private boolean insideMethod() {
        for (Tree tree : getCurrentPath()) {
            if (tree instanceof MethodTree) {
                return true;
            }
        }
        return false;
    }

    // ---- rules 2 to 6: what may not stand there at all

    @Override
    public Void visitImport(ImportTree tree, Void v) {
        no(4, "an import", tree);
        return null;
    }

    @Override
    public Void visitLambdaExpression(LambdaExpressionTree tree, Void v) {
        no(2, "a lambda", tree);
        return null;
    }

    @Override
    public Void visitMemberReference(MemberReferenceTree tree, Void v) {
        no(2, "a method reference", tree);
        return null;
    }

    @Override
    public Void visitThrow(ThrowTree tree, Void v) {
        no(6, "a throw", tree);
        return null;
    }

    @Override
    public Void visitTry(TryTree tree, Void v) {
        no(6, "a try", tree);
        return null;
    }

    @Override
    public Void visitSynchronized(SynchronizedTree tree, Void v) {
        no(6, "a synchronized", tree);
        return null;
    }

    @Override
    public Void visitAssert(AssertTree tree, Void v) {
        no(6, "an assert", tree);
        return null;
    }

    @Override
    public Void visitTypeCast(TypeCastTree tree, Void v) {
        boolean numbers = typeOf(tree.getType()).getKind().isPrimitive();
        CHECK.so("rule 6: a cast to a number alone in line " + lineOf(tree), numbers);
        return super.visitTypeCast(tree, v);
    }

    @Override
    public Void visitBinary(BinaryTree tree, Void v) {
        boolean texts = typeOf(tree.getLeftOperand()).toString().equals("java.lang.String");
        CHECK.so("rules 6 and 10: no == and no + of texts in line " + lineOf(tree), !texts);
        return super.visitBinary(tree, v);
    }

    @Override
    public Void visitBlock(BlockTree tree, Void v) {
        CHECK.so("rule 5: no static block in line " + lineOf(tree), !tree.isStatic());
        return super.visitBlock(tree, v);
    }

    // ---- rules 2, 5 and 11: classes, fields, methods

    @Override
    public Void visitClass(ClassTree tree, Void v) {
        TypeElement type = (TypeElement) trees.getElement(getCurrentPath());
        classes.add(type);
        CHECK.so("rule 2: " + type + " has a place of its own", !insideMethod() && type.getSimpleName().length() > 0);
        int fields = 0;
        for (Element field : ElementFilter.fieldsIn(type.getEnclosedElements())) {
            Set<Modifier> modifiers = field.getModifiers();
            if (modifiers.contains(Modifier.STATIC)) {
                CHECK.so("rule 5: " + field + " is final", modifiers.contains(Modifier.FINAL));
                CHECK.so("rule 5: " + field + " is a constant", CONSTANTS.contains(field.asType().toString()));
            } else {
                fields++;
            }
        }
        CHECK.so("rule 11: " + type + " has some twenty fields: " + fields, fields <= FIELDS);
        return super.visitClass(tree, v);
    }

    @Override
    public Void visitMethod(MethodTree tree, Void v) {
        ExecutableElement method = (ExecutableElement) trees.getElement(getCurrentPath());
        calls.computeIfAbsent(method, m -> new LinkedHashSet<>());
        CHECK.so("rule 11: " + method + " takes seven at most", method.getParameters().size() <= PARAMETERS);
        LineMap lines = unit.getLineMap();
        long last = lines.getLineNumber(Math.max(0, trees.getSourcePositions().getEndPosition(unit, tree)));
        CHECK.so("rule 11: " + method + " is short", last - lineOf(tree) < LINES);
        return super.visitMethod(tree, v);
    }

    @Override
    public Void visitVariable(VariableTree tree, Void v) {
        CHECK.so("rule 3: the type of " + tree.getName(), isFine(trees.getElement(getCurrentPath()).asType()));
        return super.visitVariable(tree, v);
    }

    /** What the class has use for: numbers, texts, its own classes, and rows of numbers and of its own classes. */
    private static boolean isFine(TypeMirror type) {
        TypeMirror one = type instanceof ArrayType row ? row.getComponentType() : type;
        boolean own = one.toString().startsWith("OddFridays");
        return one.getKind().isPrimitive() || own || one == type && one.toString().equals("java.lang.String");
    }

    // ---- rules 4, 8 and 11: who calls whom

    @Override
    public Void visitMethodInvocation(MethodInvocationTree tree, Void v) {
        Element called = elementOf(tree.getMethodSelect());
        boolean above = tree.getMethodSelect().toString().startsWith("super");
        noteCall((ExecutableElement) called, above);
        return super.visitMethodInvocation(tree, v);
    }

    @Override
    public Void visitNewClass(NewClassTree tree, Void v) {
        CHECK.so("rule 2: no class without a name in line " + lineOf(tree), tree.getClassBody() == null);
        noteCall((ExecutableElement) trees.getElement(getCurrentPath()), true);
        return super.visitNewClass(tree, v);
    }

    private void noteCall(ExecutableElement called, boolean justThisOne) {
        TypeElement owner = (TypeElement) called.getEnclosingElement();
        boolean own = owner.getQualifiedName().toString().startsWith("OddFridays");
        if (!own) {
            String name = owner.getSimpleName() + "." + called.getSimpleName();
            CHECK.so("rule 4: " + name + " is in the library's list", LIBRARY.contains(name));
            return;
        }
        for (ExecutableElement caller : callers()) {
            calls.computeIfAbsent(caller, m -> new LinkedHashSet<>()).add(called);
            if (!justThisOne) {
                wideCalls.computeIfAbsent(caller, m -> new LinkedHashSet<>()).add(called);
            }
        }
    }

    /** The method around this place; what stands at a field is called by the constructors. */
    private List<ExecutableElement> callers() {
        TreePath path = getCurrentPath();
        while (!(path.getLeaf() instanceof ClassTree) && !(path.getLeaf() instanceof MethodTree)) {
            path = path.getParentPath();
        }
        Element around = trees.getElement(path);
        return around instanceof ExecutableElement method ? List.of(method)
            : ElementFilter.constructorsIn(around.getEnclosedElements());
    }

    private List<ExecutableElement> overriding(ExecutableElement called) {
        List<ExecutableElement> all = new ArrayList<>();
        for (TypeElement type : classes) {
            for (ExecutableElement other : ElementFilter.methodsIn(type.getEnclosedElements())) {
                if (task.getElements().overrides(other, called, type)) {
                    all.add(other);
                }
            }
        }
        return all;
    }

    private String deepestFrom(ExecutableElement method) {
        if (!open.add(method)) {
            CHECK.so("rule 8: " + method + " calls itself", false);
            return "";
        }
        String deepest = "";
        for (ExecutableElement called : calls.getOrDefault(method, Set.of())) {
            String under = deepestFrom(called);
            deepest = depth(under) > depth(deepest) ? under : deepest;
        }
        open.remove(method);
        String name = method.getEnclosingElement().getSimpleName() + "." + method.getSimpleName();
        return deepest.isEmpty() ? name : name + " " + deepest;
    }

    private static int depth(String way) {
        return way.isEmpty() ? 0 : way.split(" ").length;
    }

    private void depths() {
        wideCalls.forEach((caller, all) -> all.forEach(called -> calls.get(caller).addAll(overriding(called))));
        for (ExecutableElement method : calls.keySet()) {
            if (method.getModifiers().contains(Modifier.PUBLIC)) {
                String way = deepestFrom(method);
                CHECK.so("rule 11: " + depth(way) + " deep is " + way, depth(way) <= DEEPEST);
            }
        }
    }

    private void namesOfTheFace() {
        Set<String> face = new TreeSet<>();
        for (ExecutableElement method : calls.keySet()) {
            if (method.getModifiers().contains(Modifier.PUBLIC) && method.getKind() == ElementKind.METHOD) {
                face.add(method.getSimpleName().toString());
            }
        }
        for (ExecutableElement method : calls.keySet()) {
            CHECK.so("rule 1: " + method + " bears no name of the face", method.getModifiers().contains(Modifier.PUBLIC)
                || !face.contains(method.getSimpleName().toString()));
        }
    }

    private static void signs(String text) {
        for (int i = 0; i < text.length(); i++) {
            char c = text.charAt(i);
            if (c != '\n' && (c < 32 || c > 126)) {
                CHECK.so("sign " + (int) c + " in the source", false);
            }
        }
    }

    public static void main(String[] args) throws Exception {
        Path file = Path.of(args.length > 0 ? args[0] : "src/main/java/OddFridays.java");
        signs(Files.readString(file));
        JavaCompiler compiler = ToolProvider.getSystemJavaCompiler();
        try (StandardJavaFileManager files = compiler.getStandardFileManager(null, null, null)) {
            JavacTask task = (JavacTask) compiler.getTask(null, files, null, List.of("-proc:none"), null,
                files.getJavaFileObjects(file));
            CompilationUnitTree unit = task.parse().iterator().next();
            task.analyze();
            LanguageTest test = new LanguageTest(task, unit);
            test.scan(unit, null);
            CHECK.so("rule 11: some twelve classes", test.classes.size() <= CLASSES);
            test.namesOfTheFace();
            test.depths();
        }
        CHECK.end();
    }
}
