import com.sun.source.tree.BinaryTree;
import com.sun.source.tree.BlockTree;
import com.sun.source.tree.ClassTree;
import com.sun.source.tree.CompilationUnitTree;
import com.sun.source.tree.CompoundAssignmentTree;
import com.sun.source.tree.ExpressionTree;
import com.sun.source.tree.ImportTree;
import com.sun.source.tree.LiteralTree;
import com.sun.source.tree.MethodInvocationTree;
import com.sun.source.tree.MethodTree;
import com.sun.source.tree.NewArrayTree;
import com.sun.source.tree.NewClassTree;
import com.sun.source.tree.ThrowTree;
import com.sun.source.tree.Tree;
import com.sun.source.tree.TypeCastTree;
import com.sun.source.tree.VariableTree;
import com.sun.source.util.JavacTask;
import com.sun.source.util.TreePath;
import com.sun.source.util.TreePathScanner;
import com.sun.source.util.Trees;
import java.io.IOException;
import java.nio.file.Files;
import java.nio.file.Path;
import java.util.ArrayList;
import java.util.EnumSet;
import java.util.HashMap;
import java.util.List;
import java.util.Map;
import java.util.Set;
import java.util.TreeSet;
import javax.lang.model.element.Element;
import javax.lang.model.element.ElementKind;
import javax.lang.model.element.ExecutableElement;
import javax.lang.model.element.Modifier;
import javax.lang.model.type.ArrayType;
import javax.lang.model.type.TypeKind;
import javax.lang.model.type.TypeMirror;
import javax.tools.JavaCompiler;
import javax.tools.StandardJavaFileManager;
import javax.tools.ToolProvider;

/**
 * What of LANGUAGE.md a compiler can see of the class. It asks for less than the rules allow: what
 * the class has no need of (lists, catches, interfaces ..) is to be allowed here when it comes.
 */
public final class LanguageTest {
    private static final Set<String> IMPORTS = Set.of("java.util.Arrays", "java.util.NoSuchElementException");
    private static final Set<String> LIBRARY = Set.of("String.length", "String.charAt", "Math.min", "Math.max",
            "Math.floorMod", "Arrays.fill", "System.arraycopy", "Object.<init>");
    private static final Set<String> THROWN = Set.of("IllegalArgumentException", "NoSuchElementException");
    private static final EnumSet<Tree.Kind> RULED_OUT = EnumSet.of(Tree.Kind.LAMBDA_EXPRESSION,
            Tree.Kind.MEMBER_REFERENCE, Tree.Kind.TRY, Tree.Kind.CATCH, Tree.Kind.SYNCHRONIZED, Tree.Kind.ASSERT,
            Tree.Kind.INSTANCE_OF, Tree.Kind.SWITCH_EXPRESSION, Tree.Kind.ANNOTATION, Tree.Kind.ENUM,
            Tree.Kind.INTERFACE, Tree.Kind.RECORD, Tree.Kind.ENHANCED_FOR_LOOP);
    private static final EnumSet<TypeKind> NUMBERS = EnumSet.of(TypeKind.INT, TypeKind.LONG, TypeKind.SHORT,
            TypeKind.BYTE, TypeKind.CHAR, TypeKind.BOOLEAN);
    private static final int DEEPEST = 8;
    private static final Due DUE = new Due();

    private static Trees trees;
    private static CompilationUnitTree unit;
    private static final Map<Element, Set<Element>> CALLED = new HashMap<>();
    private static int classes;

    public static void main(String[] args) throws IOException {
        Path source = Path.of(System.getProperty("project", "."), "src", "main", "java", "FarBoard.java");
        plainSigns(Files.readString(source));
        read(source);
        oneFinalClass();
        new Rules().scan(new TreePath(unit), null);
        DUE.same("classes, of some twelve: " + classes, classes <= 12, true);
        callsEnd();
        DUE.end();
    }

    private static void read(Path source) throws IOException {
        JavaCompiler compiler = ToolProvider.getSystemJavaCompiler();
        try (StandardJavaFileManager files = compiler.getStandardFileManager(null, null, null)) {
            JavacTask task = (JavacTask) compiler.getTask(null, files, null, List.of("-proc:none"), null,
                    files.getJavaFileObjects(source));
            unit = task.parse().iterator().next();
            task.analyze();
            trees = Trees.instance(task);
        }
    }

    private static void plainSigns(String text) {
        for (int i = 0; i < text.length(); i++) {
            if (text.charAt(i) < 1 || text.charAt(i) > 127) {
                DUE.same("rule 4, the sign at " + i, (int) text.charAt(i), "1 to 127");
            }
        }
    }

    private static void oneFinalClass() {
        DUE.same("no package line", unit.getPackage(), null);
        DUE.same("one class", unit.getTypeDecls().size(), 1);
        ClassTree whole = (ClassTree) unit.getTypeDecls().get(0);
        DUE.same("its name", whole.getSimpleName(), "FarBoard");
        DUE.same("public and final", whole.getModifiers().getFlags().equals(EnumSet.of(Modifier.PUBLIC, Modifier.FINAL)), true);
        for (ImportTree line : unit.getImports()) {
            DUE.same("rule 4, import of " + line, IMPORTS.contains(line.getQualifiedIdentifier().toString()), true);
        }
    }

    /** Rules 8 and 11: calls that are no recursion go at most eight deep, from each method of the face. */
    private static void callsEnd() {
        Map<Element, Integer> depths = new HashMap<>();
        for (Element method : CALLED.keySet()) {
            int depth = depth(method, depths, new ArrayList<>());
            DUE.same("rule 11, calls from " + method.getEnclosingElement() + "." + method + " go " + depth + " deep",
                    depth <= DEEPEST, true);
        }
    }

    private static int depth(Element method, Map<Element, Integer> depths, List<Element> open) {
        if (depths.containsKey(method)) {
            return depths.get(method);
        }
        DUE.same("rule 8, " + method + " is not called by what it calls", open.contains(method), false);
        if (open.contains(method)) {
            return 0;
        }
        open.add(method);
        int deepest = 0;
        for (Element called : CALLED.getOrDefault(method, Set.of())) {
            // A method that calls itself is a recursion, whose depth is carried as an argument.
            if (!called.equals(method)) {
                deepest = Math.max(deepest, depth(called, depths, open));
            }
        }
        open.remove(method);
        depths.put(method, deepest + 1);
        return deepest + 1;
    }

    private static final class Rules extends TreePathScanner<Void, Void> {
        private MethodTree within;

        @Override
        public Void scan(Tree tree, Void none) {
            if (tree != null && RULED_OUT.contains(tree.getKind())) {
                wrong("no " + tree.getKind(), tree);
            }
            return super.scan(tree, none);
        }

        @Override
        public Void visitClass(ClassTree tree, Void none) {
            classes++;
            boolean isInside = getCurrentPath().getParentPath().getLeaf() != unit;
            if (isInside) {
                Set<Modifier> flags = tree.getModifiers().getFlags();
                check("rule 2, static", flags.contains(Modifier.STATIC), tree);
                check("rule 1, not public", !flags.contains(Modifier.PUBLIC), tree);
                check("rule 1, not protected", !flags.contains(Modifier.PROTECTED), tree);
            }
            int fields = 0;
            for (Tree member : tree.getMembers()) {
                check("rule 5, no initialiser block", !(member instanceof BlockTree), member);
                if (member instanceof VariableTree field) {
                    fields += field.getModifiers().getFlags().contains(Modifier.STATIC) ? 0 : 1;
                    field(field);
                }
            }
            check("rule 11, some twenty fields: " + fields, fields <= 20, tree);
            return super.visitClass(tree, none);
        }

        private void field(VariableTree field) {
            Set<Modifier> flags = field.getModifiers().getFlags();
            if (flags.contains(Modifier.STATIC)) {
                check("rule 5, final", flags.contains(Modifier.FINAL), field);
                ExpressionTree first = field.getInitializer();
                boolean isWrittenOut = first instanceof NewArrayTree array && array.getInitializers() != null;
                boolean isConstant = first != null && trees.getElement(new TreePath(getCurrentPath(), field))
                        instanceof javax.lang.model.element.VariableElement known && known.getConstantValue() != null;
                check("rule 5, a constant", isWrittenOut || isConstant, field);
            }
        }

        @Override
        public Void visitMethod(MethodTree tree, Void none) {
            MethodTree outside = within;
            within = tree;
            Element method = trees.getElement(getCurrentPath());
            CALLED.computeIfAbsent(method, key -> new java.util.HashSet<>());
            check("rule 11, at most seven parameters", tree.getParameters().size() <= 7, tree);
            long lines = line(trees.getSourcePositions().getEndPosition(unit, tree))
                    - line(trees.getSourcePositions().getStartPosition(unit, tree)) + 1;
            check("rule 11, some sixty lines: " + lines, lines <= 60, tree);
            super.visitMethod(tree, none);
            within = outside;
            return null;
        }

        @Override
        public Void visitVariable(VariableTree tree, Void none) {
            TypeMirror type = trees.getTypeMirror(getCurrentPath());
            check("rule 3, a type " + type, isAllowed(type), tree);
            return super.visitVariable(tree, none);
        }

        private boolean isAllowed(TypeMirror type) {
            TypeMirror part = type;
            for (int depth = 0; depth < 2 && part.getKind() == TypeKind.ARRAY; depth++) {
                part = ((ArrayType) part).getComponentType();
            }
            return NUMBERS.contains(part.getKind()) || part.toString().equals("java.lang.String")
                    || part.toString().startsWith("FarBoard");
        }

        @Override
        public Void visitMethodInvocation(MethodInvocationTree tree, Void none) {
            called(trees.getElement(getCurrentPath()), tree);
            return super.visitMethodInvocation(tree, none);
        }

        private void called(Element element, Tree tree) {
            if (!(element instanceof ExecutableElement method)) {
                wrong("a call of what is no method", tree);
                return;
            }
            String owner = method.getEnclosingElement().toString();
            if (owner.startsWith("FarBoard")) {
                if (within == null) {
                    wrong("a call outside a method", tree);
                } else {
                    CALLED.get(methodWithin()).add(method);
                }
            } else {
                String name = method.getEnclosingElement().getSimpleName() + "." + method.getSimpleName();
                check("rule 4, of the library: " + name, owner.startsWith("java.lang.") || owner.equals("java.util.Arrays"), tree);
                check("rule 4, of the library: " + name, LIBRARY.contains(name), tree);
            }
        }

        private Element methodWithin() {
            return trees.getElement(trees.getPath(unit, within));
        }

        @Override
        public Void visitNewClass(NewClassTree tree, Void none) {
            check("rule 2, no class without a name", tree.getClassBody() == null, tree);
            boolean isThrown = getCurrentPath().getParentPath().getLeaf() instanceof ThrowTree;
            if (!isThrown) {
                check("rule 12, made by a constructor", isInConstructor(), tree);
                called(trees.getElement(getCurrentPath()), tree);
            }
            return super.visitNewClass(tree, none);
        }

        @Override
        public Void visitNewArray(NewArrayTree tree, Void none) {
            check("rule 12, made by a constructor", within == null || isInConstructor(), tree);
            return super.visitNewArray(tree, none);
        }

        private boolean isInConstructor() {
            return within != null && methodWithin().getKind() == ElementKind.CONSTRUCTOR;
        }

        @Override
        public Void visitThrow(ThrowTree tree, Void none) {
            boolean isNew = tree.getExpression() instanceof NewClassTree made
                    && THROWN.contains(made.getIdentifier().toString())
                    && made.getArguments().stream().allMatch(part -> part instanceof LiteralTree);
            check("rule 6, a new exception", isNew, tree);
            check("rule 6, not in a constructor", !isInConstructor(), tree);
            return super.visitThrow(tree, none);
        }

        @Override
        public Void visitTypeCast(TypeCastTree tree, Void none) {
            TypeMirror type = trees.getTypeMirror(new TreePath(getCurrentPath(), tree.getType()));
            check("rule 6, a cast of numbers", NUMBERS.contains(type.getKind()), tree);
            return super.visitTypeCast(tree, none);
        }

        @Override
        public Void visitBinary(BinaryTree tree, Void none) {
            check("rule 10, no texts joined by a sign", !isText(tree.getLeftOperand()) && !isText(tree.getRightOperand()), tree);
            return super.visitBinary(tree, none);
        }

        @Override
        public Void visitCompoundAssignment(CompoundAssignmentTree tree, Void none) {
            check("rule 10, no texts joined by a sign", !isText(tree.getVariable()), tree);
            return super.visitCompoundAssignment(tree, none);
        }

        private boolean isText(Tree tree) {
            TypeMirror type = trees.getTypeMirror(new TreePath(getCurrentPath(), tree));
            return type != null && type.toString().equals("java.lang.String");
        }

        private long line(long position) {
            return unit.getLineMap().getLineNumber(position);
        }

        private void check(String what, boolean holds, Tree tree) {
            DUE.same("line " + line(trees.getSourcePositions().getStartPosition(unit, tree)) + ", " + what, holds, true);
        }

        private void wrong(String what, Tree tree) {
            check(what, false, tree);
        }
    }
}
