import com.sun.source.tree.*;
import com.sun.source.util.JavacTask;
import com.sun.source.util.TreePath;
import com.sun.source.util.TreePathScanner;
import com.sun.source.util.TreeScanner;
import com.sun.source.util.Trees;
import java.io.IOException;
import java.nio.file.Path;
import java.util.ArrayDeque;
import java.util.Deque;
import java.util.EnumSet;
import java.util.HashMap;
import java.util.HashSet;
import java.util.List;
import java.util.Map;
import java.util.Set;
import java.util.TreeSet;
import javax.lang.model.element.Element;
import javax.lang.model.element.ExecutableElement;
import javax.lang.model.element.Modifier;
import javax.lang.model.element.TypeElement;
import javax.lang.model.type.ArrayType;
import javax.lang.model.type.TypeKind;
import javax.lang.model.type.TypeMirror;
import javax.tools.JavaCompiler;
import javax.tools.StandardJavaFileManager;
import javax.tools.ToolProvider;

/**
 * The rules of ../shared/LANGUAGE.md that can be seen in the program's text, in the tree that javac makes of it.
 * It asks for a little less than the rules allow, where the program needs no more: no text, no list, no exception.
 */
final class LanguageTest extends TreePathScanner<Void, Void> {
    private static final Path PROGRAM = Path.of("src/main/java/HerdMasters.java");

    /** Rules 2, 6, 9 and 10: what is ruled out, and what the program does without. */
    private static final Set<Tree.Kind> NEVER = EnumSet.of(
        Tree.Kind.LAMBDA_EXPRESSION, Tree.Kind.MEMBER_REFERENCE, Tree.Kind.TRY, Tree.Kind.THROW, Tree.Kind.SYNCHRONIZED,
        Tree.Kind.ASSERT, Tree.Kind.INSTANCE_OF, Tree.Kind.TYPE_CAST, Tree.Kind.STRING_LITERAL, Tree.Kind.NULL_LITERAL,
        Tree.Kind.WHILE_LOOP, Tree.Kind.DO_WHILE_LOOP, Tree.Kind.IMPORT, Tree.Kind.ANNOTATION, Tree.Kind.DIVIDE);

    /** Rule 4: of the library, this alone. */
    private static final Set<String> LIBRARY = Set.of("Math.max", "Math.min", "Math.floorMod");

    private final Trees trees;
    private final CompilationUnitTree unit;
    private final Map<String, Set<String>> calls = new HashMap<>();
    private final Set<String> publicMethods = new HashSet<>();
    private final Set<String> otherMethods = new HashSet<>();
    private final Deque<String> inside = new ArrayDeque<>();
    private int classes = 0;

    private LanguageTest(Trees trees, CompilationUnitTree unit) {
        this.trees = trees;
        this.unit = unit;
    }

    public static void main(String[] args) throws IOException {
        JavaCompiler compiler = ToolProvider.getSystemJavaCompiler();
        try (StandardJavaFileManager files = compiler.getStandardFileManager(null, null, null)) {
            JavacTask task = (JavacTask) compiler.getTask(
                null, files, null, List.of("--release", "17", "-proc:none"), null, files.getJavaFileObjects(PROGRAM));
            CompilationUnitTree unit = task.parse().iterator().next();
            task.analyze();
            LanguageTest test = new LanguageTest(Trees.instance(task), unit);
            test.wholeFile();
            test.scan(unit, null);
            test.names();
            test.depth();
        }
        Due.end();
    }

    private void wholeFile() {
        Due.is("rule 1: no package line", unit.getPackageName() == null, true);
        Due.is("rule 4: no import", unit.getImports().size(), 0);
        Due.is("rule 1: one class in the file", unit.getTypeDecls().size(), 1);
    }

    private void names() {
        for (String name : publicMethods) {
            Due.is("rule 1: no private method is called " + name, otherMethods.contains(name), false);
        }
        Due.is("rule 11: " + classes + " classes", classes <= 12, true);
    }

    private String at(Tree tree) {
        long position = trees.getSourcePositions().getStartPosition(unit, tree);
        return " (line " + unit.getLineMap().getLineNumber(position) + ")";
    }

    private int lines(Tree tree) {
        LineMap map = unit.getLineMap();
        long first = trees.getSourcePositions().getStartPosition(unit, tree);
        long last = trees.getSourcePositions().getEndPosition(unit, tree);
        return (int) (map.getLineNumber(last) - map.getLineNumber(first)) + 1;
    }

    @Override
    public Void scan(Tree tree, Void none) {
        if (tree != null) {
            Due.is("not in the program: " + tree.getKind() + (NEVER.contains(tree.getKind()) ? at(tree) : ""),
                NEVER.contains(tree.getKind()), false);
        }
        return super.scan(tree, none);
    }

    @Override
    public Void visitClass(ClassTree tree, Void none) {
        classes++;
        Set<Modifier> modifiers = tree.getModifiers().getFlags();
        boolean isOutermost = getCurrentPath().getParentPath().getLeaf() == unit;
        if (!isOutermost) {
            boolean isHidden = !modifiers.contains(Modifier.PUBLIC) && !modifiers.contains(Modifier.PROTECTED);
            Due.is("rule 1: " + tree.getSimpleName() + " is static and not seen", isHidden && modifiers.contains(Modifier.STATIC), true);
            Due.is("rule 2: no local class", getCurrentPath().getParentPath().getLeaf() instanceof ClassTree, true);
        }
        int fields = 0;
        for (Tree member : tree.getMembers()) {
            Due.is("rule 5: no block of statements in a class" + at(member), member instanceof BlockTree, false);
            boolean isField = member instanceof VariableTree;
            fields += isField && !((VariableTree) member).getModifiers().getFlags().contains(Modifier.STATIC) ? 1 : 0;
            if (isField) {
                field((VariableTree) member);
            }
        }
        Due.is("rule 11: " + fields + " fields in " + tree.getSimpleName(), fields <= 20, true);
        return super.visitClass(tree, none);
    }

    private void field(VariableTree tree) {
        Set<Modifier> modifiers = tree.getModifiers().getFlags();
        if (modifiers.contains(Modifier.STATIC)) {
            boolean isNumber = tree.getType().toString().equals("int") && tree.getInitializer() != null;
            Due.is("rule 5: " + tree.getName() + " is a constant", isNumber && modifiers.contains(Modifier.FINAL), true);
        }
    }

    @Override
    public Void visitVariable(VariableTree tree, Void none) {
        TypeMirror type = trees.getElement(getCurrentPath()).asType();
        TypeMirror part = type.getKind() == TypeKind.ARRAY ? ((ArrayType) type).getComponentType() : type;
        boolean isSuch = part.getKind() == TypeKind.INT || part.getKind() == TypeKind.BOOLEAN
            || part.getKind() == TypeKind.DECLARED && part.toString().startsWith("HerdMasters.");
        Due.is("rule 3: the type of " + tree.getName() + at(tree), isSuch, true);
        return super.visitVariable(tree, none);
    }

    @Override
    public Void visitMethod(MethodTree tree, Void none) {
        ExecutableElement element = (ExecutableElement) trees.getElement(getCurrentPath());
        String name = tree.getName().toString();
        boolean isPublic = tree.getModifiers().getFlags().contains(Modifier.PUBLIC);
        if (tree.getReturnType() != null) {
            (isPublic ? publicMethods : otherMethods).add(name);
        }
        Due.is("rule 11: " + name + " is short", lines(tree) <= 60, true);
        Due.is("rule 11: parameters of " + name, tree.getParameters().size() <= 7 || isPublic, true);
        Due.is("rule 6: no " + name + " of its own", Set.of("equals", "hashCode", "toString").contains(name), false);
        inside.push(key(element));
        calls.put(key(element), new TreeSet<>());
        super.visitMethod(tree, none);
        inside.pop();
        return null;
    }

    private static String key(Element element) {
        return element.getEnclosingElement() + "." + element;
    }

    private void called(Tree tree, Element element) {
        TypeElement owner = (TypeElement) element.getEnclosingElement();
        String type = owner.getQualifiedName().toString();
        if (type.equals("HerdMasters") || type.startsWith("HerdMasters.")) {
            if (!inside.isEmpty()) {
                calls.get(inside.peek()).add(key(element));
            }
            return;
        }
        String name = owner.getSimpleName() + "." + element.getSimpleName();
        Due.is("rule 4: " + name + at(tree), LIBRARY.contains(name) || name.equals("Object.<init>"), true);
    }

    @Override
    public Void visitMethodInvocation(MethodInvocationTree tree, Void none) {
        Element element = trees.getElement(getCurrentPath());
        called(tree, element);
        boolean isOfConstructor = isInConstructor() && !element.getSimpleName().contentEquals("<init>");
        Due.is("rule 12: a constructor calls no method" + at(tree), isOfConstructor, false);
        return super.visitMethodInvocation(tree, none);
    }

    private MethodTree methodAbove() {
        for (TreePath path = getCurrentPath(); path != null; path = path.getParentPath()) {
            if (path.getLeaf() instanceof MethodTree method) {
                return method;
            }
        }
        return null;
    }

    private boolean isInConstructor() {
        return methodAbove() != null && methodAbove().getReturnType() == null;
    }

    @Override
    public Void visitNewClass(NewClassTree tree, Void none) {
        Due.is("rule 2: no class without a name" + at(tree), tree.getClassBody() == null, true);
        called(tree, trees.getElement(getCurrentPath()));
        Due.is("rule 12: no object made in a loop of a call" + at(tree), isInLoop() && !isInConstructor(), false);
        return super.visitNewClass(tree, none);
    }

    @Override
    public Void visitNewArray(NewArrayTree tree, Void none) {
        boolean isOfField = methodAbove() == null;
        Due.is("rule 12: rows are made with their objects" + at(tree), isOfField || isInConstructor(), true);
        return super.visitNewArray(tree, none);
    }

    private boolean isInLoop() {
        for (TreePath path = getCurrentPath(); path != null; path = path.getParentPath()) {
            if (path.getLeaf() instanceof ForLoopTree || path.getLeaf() instanceof EnhancedForLoopTree) {
                return true;
            }
        }
        return false;
    }

    /** Rule 9: one counter, which a bound stops, one step at a time, and which nothing else changes. */
    @Override
    public Void visitForLoop(ForLoopTree tree, Void none) {
        boolean isCounted = tree.getInitializer().size() == 1 && tree.getInitializer().get(0) instanceof VariableTree
            && tree.getUpdate().size() == 1 && tree.getCondition() != null;
        Due.is("rule 9: one counter" + at(tree), isCounted, true);
        if (isCounted) {
            String counter = ((VariableTree) tree.getInitializer().get(0)).getName().toString();
            String step = tree.getUpdate().get(0).toString().replace(";", "");
            boolean isUp = step.equals(counter + "++") && tree.getCondition().toString().contains(counter + " < ");
            boolean isDown = step.equals(counter + "--") && tree.getCondition().toString().contains(counter + " >= 0");
            boolean isOr = tree.getCondition().toString().contains("||");
            Due.is("rule 9: a bound stops " + counter + at(tree), (isUp || isDown) && !isOr, true);
            Due.is("rule 9: nothing else changes " + counter + at(tree), changes(counter, tree.getStatement()), false);
        }
        return super.visitForLoop(tree, none);
    }

    private static boolean changes(String counter, Tree body) {
        boolean[] found = {false};
        new TreeScanner<Void, Void>() {
            private void changed(ExpressionTree tree) {
                found[0] |= tree.toString().equals(counter);
            }

            @Override
            public Void visitAssignment(AssignmentTree tree, Void none) {
                changed(tree.getVariable());
                return super.visitAssignment(tree, none);
            }

            @Override
            public Void visitCompoundAssignment(CompoundAssignmentTree tree, Void none) {
                changed(tree.getVariable());
                return super.visitCompoundAssignment(tree, none);
            }

            @Override
            public Void visitUnary(UnaryTree tree, Void none) {
                boolean isStep = tree.getKind().name().contains("CREMENT");
                if (isStep) {
                    changed(tree.getExpression());
                }
                return super.visitUnary(tree, none);
            }
        }.scan(body, null);
        return found[0];
    }

    /** Rules 8 and 11: no method calls itself, by others either, and no more than eight stand open at once. */
    private void depth() {
        for (String method : new TreeSet<>(calls.keySet())) {
            int depth = depthOf(method, 1);
            Due.is("rules 8 and 11: " + depth + " calls open at once from " + method, depth <= 8, true);
        }
    }

    private int depthOf(String method, int level) {
        int deepest = level;
        if (level > 20) {
            return level;
        }
        for (String next : calls.getOrDefault(method, Set.of())) {
            deepest = Math.max(deepest, depthOf(next, level + 1));
        }
        return deepest;
    }
}
