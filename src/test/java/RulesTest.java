import com.sun.source.tree.*;
import com.sun.source.util.JavacTask;
import com.sun.source.util.SourcePositions;
import com.sun.source.util.TreePathScanner;
import com.sun.source.util.Trees;
import java.nio.file.Path;
import java.util.HashMap;
import java.util.HashSet;
import java.util.List;
import java.util.Locale;
import java.util.Map;
import java.util.Set;
import javax.lang.model.element.Element;
import javax.lang.model.element.ElementKind;
import javax.lang.model.element.ExecutableElement;
import javax.lang.model.element.Modifier;
import javax.lang.model.element.TypeElement;
import javax.lang.model.type.TypeKind;
import javax.tools.StandardJavaFileManager;
import javax.tools.ToolProvider;

/**
 * LANGUAGE.md's rules, as far as a reader of trees can see them: the face, what no tree may be,
 * the library, sizes, how deep calls go. Narrower than the rules where the class needs less of
 * them: it has no while but one that counts, makes objects in constructors alone, calls nothing
 * of the library but what stands here.
 */
public final class RulesTest extends TreePathScanner<Void, Void> {
    private static final Path FILE = Path.of("src/main/java/DuesOnRungs.java");
    private static final Set<String> LIBRARY = Set.of("java.util.Arrays.fill", "java.lang.System.arraycopy",
        "java.lang.Math.floorDiv", "java.lang.Integer.compare");
    private static final Set<Tree.Kind> NEVER = Set.of(Tree.Kind.THROW, Tree.Kind.TRY, Tree.Kind.CATCH,
        Tree.Kind.SYNCHRONIZED, Tree.Kind.ASSERT, Tree.Kind.LAMBDA_EXPRESSION, Tree.Kind.MEMBER_REFERENCE,
        Tree.Kind.SWITCH_EXPRESSION, Tree.Kind.INSTANCE_OF, Tree.Kind.ANNOTATION, Tree.Kind.DO_WHILE_LOOP,
        Tree.Kind.YIELD, Tree.Kind.INTERSECTION_TYPE, Tree.Kind.UNION_TYPE);
    private static final int MOST_CLASSES = 12, MOST_FIELDS = 20, MOST_LINES = 60, MOST_PARAMETERS = 7, MOST_CALLS = 8;

    private static final Checks CHECKS = new Checks("RulesTest");

    private final Trees trees;
    private final CompilationUnitTree unit;
    private final Map<Element, Set<Element>> calls = new HashMap<>();
    private final Set<String> publicNames = new HashSet<>();
    private int classes;

    private RulesTest(Trees trees, CompilationUnitTree unit) {
        this.trees = trees;
        this.unit = unit;
    }

    public static void main(String[] args) throws Exception {
        var compiler = ToolProvider.getSystemJavaCompiler();
        try (StandardJavaFileManager files = compiler.getStandardFileManager(null, Locale.ROOT, null)) {
            var task = (JavacTask) compiler.getTask(null, files, null, List.of("-proc:none"), null,
                files.getJavaFileObjects(FILE));
            CompilationUnitTree unit = task.parse().iterator().next();
            task.analyze();
            var test = new RulesTest(Trees.instance(task), unit);
            test.face();
            test.scan(unit, null);
            right(test.classes <= MOST_CLASSES, "11: " + test.classes + " classes");
            for (Element method : test.calls.keySet()) {
                test.depth(method, new HashSet<>());
            }
        }
        CHECKS.end();
    }

    private static void right(boolean is, String what) {
        CHECKS.due(what, is ? 1 : 0, 1);
    }

    private String at(Tree tree) {
        return unit.getLineMap().getLineNumber(trees.getSourcePositions().getStartPosition(unit, tree)) + ": ";
    }

    private void face() {
        right(unit.getPackage() == null, "1: a package line");
        right(unit.getTypeDecls().size() == 1, "1: more than one class outside");
        Element outer = trees.getElement(trees.getPath(unit, unit.getTypeDecls().get(0)));
        right(outer.getModifiers().containsAll(Set.of(Modifier.PUBLIC, Modifier.FINAL)), "1: public and final");
        for (Element member : outer.getEnclosedElements()) {
            if (member.getKind() == ElementKind.METHOD && member.getModifiers().contains(Modifier.PUBLIC)) {
                publicNames.add(member.getSimpleName().toString());
            } else if (member.getKind() == ElementKind.FIELD && member.getModifiers().contains(Modifier.PUBLIC)) {
                right(Set.of("NONE", "BAD", "STATE", "FULL", "GREAT", "NO_WAY", "NO")
                    .contains(member.getSimpleName().toString()), "1: public " + member);
            } else if (!member.getKind().isClass() && member.getKind() != ElementKind.CONSTRUCTOR) {
                right(member.getModifiers().contains(Modifier.PRIVATE), "1: not private: " + member);
            }
        }
        right(publicNames.equals(Set.of("due", "rate", "limit", "rung", "day", "bond", "hold", "told", "pays", "paysAt",
            "taken", "ranked", "worth", "length", "surplus", "least", "amount", "proof", "ladder", "replay", "worst",
            "drawn", "chance", "tells", "film", "image", "back", "count", "sheet", "put", "copy", "load")),
            "1: the public methods are " + publicNames);
    }

    @Override
    public Void scan(Tree tree, Void v) {
        if (tree != null) {
            right(!NEVER.contains(tree.getKind()), "2, 6: " + at(tree) + tree.getKind());
        }
        return super.scan(tree, v);
    }

    @Override
    public Void visitImport(ImportTree tree, Void v) {
        right(tree.getQualifiedIdentifier().toString().equals("java.util.Arrays"), "4: " + tree);
        return super.visitImport(tree, v);
    }

    @Override
    public Void visitClass(ClassTree tree, Void v) {
        classes++;
        TypeElement type = (TypeElement) trees.getElement(getCurrentPath());
        boolean outer = type.getEnclosingElement().getKind() == ElementKind.PACKAGE;
        right(outer || type.getEnclosingElement().getKind().isClass() && type.getModifiers().contains(Modifier.STATIC),
            "2: " + at(tree) + "no static class inside");
        int fields = 0;
        for (Element member : type.getEnclosedElements()) {
            Set<Modifier> modifiers = member.getModifiers();
            right(!Set.of(ElementKind.STATIC_INIT, ElementKind.INSTANCE_INIT).contains(member.getKind()),
                "5: an initialiser block in " + type);
            if (member.getKind() == ElementKind.FIELD) {
                right(!modifiers.contains(Modifier.STATIC) || modifiers.contains(Modifier.FINAL), "5: " + member);
                fields += modifiers.contains(Modifier.STATIC) ? 0 : 1;
            }
        }
        right(fields <= MOST_FIELDS, "11: " + type + " has " + fields + " fields");
        return super.visitClass(tree, v);
    }

    @Override
    public Void visitMethod(MethodTree tree, Void v) {
        ExecutableElement method = (ExecutableElement) trees.getElement(getCurrentPath());
        calls.putIfAbsent(method, new HashSet<>());
        SourcePositions positions = trees.getSourcePositions();
        long lines = unit.getLineMap().getLineNumber(positions.getEndPosition(unit, tree))
            - unit.getLineMap().getLineNumber(positions.getStartPosition(unit, tree)) + 1;
        right(lines <= MOST_LINES, "11: " + at(tree) + lines + " lines");
        right(tree.getParameters().size() <= MOST_PARAMETERS, "11: " + at(tree) + "parameters");
        right(method.getModifiers().contains(Modifier.PUBLIC)
            || !publicNames.contains(method.getSimpleName().toString()), "1: " + at(tree) + "a public one's name");
        right(!Set.of("equals", "hashCode", "toString").contains(method.getSimpleName().toString()), "6: " + at(tree));
        return super.visitMethod(tree, v);
    }

    @Override
    public Void visitMethodInvocation(MethodInvocationTree tree, Void v) {
        ExecutableElement called = (ExecutableElement) trees.getElement(getCurrentPath());
        TypeElement type = (TypeElement) called.getEnclosingElement();
        String name = type.getQualifiedName() + "." + called.getSimpleName();
        boolean own = type.getQualifiedName().toString().startsWith("DuesOnRungs");
        boolean ofObject = name.equals("java.lang.Object.<init>");
        right(own || ofObject || LIBRARY.contains(name), "4: " + at(tree) + name);
        Element caller = caller();
        if (!ofObject && caller != null) {
            calls.computeIfAbsent(caller, k -> new HashSet<>()).add(called);
        }
        return super.visitMethodInvocation(tree, v);
    }

    @Override
    public Void visitNewClass(NewClassTree tree, Void v) {
        madeInConstructor(tree);
        right(tree.getClassBody() == null, "2: " + at(tree) + "an anonymous class");
        return super.visitNewClass(tree, v);
    }

    @Override
    public Void visitNewArray(NewArrayTree tree, Void v) {
        madeInConstructor(tree);
        return super.visitNewArray(tree, v);
    }

    private void madeInConstructor(Tree tree) {
        Element caller = caller();
        right(caller == null || caller.getKind() == ElementKind.CONSTRUCTOR, "12: " + at(tree) + "made by a call");
    }

    @Override
    public Void visitBinary(BinaryTree tree, Void v) {
        TypeKind kind = trees.getTypeMirror(getCurrentPath()).getKind();
        right(kind.isPrimitive(), "10: " + at(tree) + "joined by +");
        if (tree.getKind() == Tree.Kind.DIVIDE || tree.getKind() == Tree.Kind.REMAINDER) {
            // Every divisor is a constant or stands behind a test that it is above 0: see there.
            Tree by = tree.getRightOperand();
            right(by.getKind() == Tree.Kind.INT_LITERAL || Set.of("a", "b", "one", "sizeOfB", "OF_SHORT", "DRAWN_RATES")
                .contains(by.toString()), "7: " + at(tree) + "a divisor that nobody looked at: " + by);
        }
        return super.visitBinary(tree, v);
    }

    @Override
    public Void visitTypeCast(TypeCastTree tree, Void v) {
        right(tree.getType().getKind() == Tree.Kind.PRIMITIVE_TYPE, "6: " + at(tree) + "a cast");
        return super.visitTypeCast(tree, v);
    }

    @Override
    public Void visitForLoop(ForLoopTree tree, Void v) {
        right(!tree.getInitializer().isEmpty() && tree.getCondition() != null && !tree.getUpdate().isEmpty(),
            "9: " + at(tree) + "a loop that does not count");
        return super.visitForLoop(tree, v);
    }

    @Override
    public Void visitWhileLoop(WhileLoopTree tree, Void v) {
        right(tree.getCondition().toString().startsWith("(place > 0 && ")
            && tree.getStatement().toString().contains("place--"), "9: " + at(tree) + "a loop that does not count");
        return super.visitWhileLoop(tree, v);
    }

    private Element caller() {
        for (var path = getCurrentPath(); path != null; path = path.getParentPath()) {
            if (path.getLeaf() instanceof MethodTree) {
                return trees.getElement(path);
            }
        }
        return null;
    }

    /** How many calls stand open at most from a method on, itself among them. */
    private int depth(Element method, Set<Element> open) {
        if (!open.add(method)) {
            right(false, "8: a recursion through " + method);
            return 0;
        }
        int most = 0;
        for (Element called : calls.getOrDefault(method, Set.of())) {
            most = Math.max(most, depth(called, open));
        }
        open.remove(method);
        right(most + 1 <= MOST_CALLS, "11: " + method + " goes " + (most + 1) + " deep");
        return most + 1;
    }
}
