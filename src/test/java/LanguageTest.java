import com.sun.source.tree.AnnotationTree;
import com.sun.source.tree.AssertTree;
import com.sun.source.tree.BinaryTree;
import com.sun.source.tree.BlockTree;
import com.sun.source.tree.CatchTree;
import com.sun.source.tree.ClassTree;
import com.sun.source.tree.CompilationUnitTree;
import com.sun.source.tree.CompoundAssignmentTree;
import com.sun.source.tree.ExpressionTree;
import com.sun.source.tree.ForLoopTree;
import com.sun.source.tree.ImportTree;
import com.sun.source.tree.LambdaExpressionTree;
import com.sun.source.tree.LiteralTree;
import com.sun.source.tree.MemberReferenceTree;
import com.sun.source.tree.MethodInvocationTree;
import com.sun.source.tree.MethodTree;
import com.sun.source.tree.NewArrayTree;
import com.sun.source.tree.NewClassTree;
import com.sun.source.tree.SynchronizedTree;
import com.sun.source.tree.ThrowTree;
import com.sun.source.tree.Tree;
import com.sun.source.tree.TryTree;
import com.sun.source.tree.TypeCastTree;
import com.sun.source.tree.VariableTree;
import com.sun.source.tree.WhileLoopTree;
import com.sun.source.util.JavacTask;
import com.sun.source.util.TreePath;
import com.sun.source.util.TreePathScanner;
import com.sun.source.util.Trees;
import java.io.File;
import java.io.IOException;
import java.lang.management.ManagementFactory;
import java.lang.reflect.Constructor;
import java.lang.reflect.Field;
import java.lang.reflect.Method;
import java.lang.reflect.Modifier;
import java.util.Arrays;
import java.util.LinkedHashMap;
import java.util.LinkedHashSet;
import java.util.List;
import java.util.Map;
import java.util.Set;
import java.util.TreeSet;
import javax.lang.model.element.Element;
import javax.lang.model.element.ExecutableElement;
import javax.lang.model.element.VariableElement;
import javax.tools.JavaCompiler;
import javax.tools.StandardJavaFileManager;
import javax.tools.ToolProvider;

/** The face, the rules of LANGUAGE.md that can be seen in the source, and what calls make. */
public final class LanguageTest {
    private static final Check check = new Check();
    private static final String SOURCE = "src/main/java/BackPages.java";
    private static final Set<String> LIBRARY = Set.of("java.lang.String.length", "java.lang.String.charAt",
            "java.lang.System.arraycopy", "java.lang.Math.min", "java.lang.Math.max", "java.lang.Integer.bitCount",
            "java.lang.Long.bitCount", "java.lang.Object.<init>");
    /** Beside the classes of its own and rows of these. */
    private static final Set<String> TYPES = Set.of("int", "long", "byte", "boolean", "int[]", "long[]", "byte[]", "boolean[]", "void",
            "java.lang.String");
    private static final Set<String> STATIC_TYPES = Set.of("int", "long", "boolean", "char", "java.lang.String", "int[]", "long[]", "char[]",
            "byte[]");
    private static final String[] FACE = {"feed(int,long)", "read()", "fault()", "count(int)", "head(int,int)",
        "name(int,int,int)", "mark(int,int)", "add(int,int,int,int,boolean)", "drop(int)", "asked(int,int)",
        "run(int,int,int,int)", "order(int)", "at(int)", "subAt(int,int)", "width(int)", "print(int)", "look(int,int)",
        "steps(int,int)", "finds(int,int)", "trouble(int,int)", "posted(int)", "posting(int,int)", "fit(int,int)",
        "putIn(int,int)", "takeOut(int,int)", "stale(int)", "saw(int,int)", "forget()", "story(int,int)", "near(int,int)",
        "join(int,int)", "keep(int)", "goBack(int)"};

    public static void main(String[] args) throws IOException {
        face();
        source();
        room();
        check.end();
    }

    private static void face() {
        Set<String> methods = new TreeSet<>();
        for (Method m : BackPages.class.getDeclaredMethods()) {
            if (!Modifier.isPrivate(m.getModifiers())) {
                String types = Arrays.toString(m.getParameterTypes()).replaceAll("[\\[\\] ]", "");
                methods.add(m.getName() + "(" + types + ")");
                check.due(m.getName() + " answers an int", m.getReturnType().getName(), "int");
                check.due(m.getName() + " is public alone", m.getModifiers(), Modifier.PUBLIC);
            }
        }
        check.due("methods", methods.toString(), new TreeSet<>(List.of(FACE)).toString());
        Set<String> fields = new TreeSet<>();
        for (Field f : BackPages.class.getDeclaredFields()) {
            if (!Modifier.isPrivate(f.getModifiers())) {
                fields.add(f.getName() + " " + Modifier.toString(f.getModifiers()));
            }
        }
        check.due("constants", fields.toString(), "[FULL public static final, NONE public static final, "
                + "NOT public static final, OUTSIDE public static final, UNKNOWN public static final]");
        Constructor<?>[] makers = BackPages.class.getDeclaredConstructors();
        check.due("constructors", makers.length, 1);
        check.due("it is public", makers[0].getModifiers(), Modifier.PUBLIC);
        check.due("the class", BackPages.class.getModifiers(), Modifier.PUBLIC | Modifier.FINAL);
        check.due("no package", BackPages.class.getPackageName(), "");
        int[] constants = {BackPages.NONE, BackPages.UNKNOWN, BackPages.OUTSIDE, BackPages.NOT, BackPages.FULL};
        check.due("their values", Arrays.toString(constants), "[-1, -1001, -1002, -1003, -1004]");
    }

    private static void source() throws IOException {
        JavaCompiler compiler = ToolProvider.getSystemJavaCompiler();
        try (StandardJavaFileManager files = compiler.getStandardFileManager(null, null, null)) {
            JavacTask task = (JavacTask) compiler.getTask(null, files, null, List.of("-proc:none"), null,
                    files.getJavaFileObjects(new File(SOURCE)));
            CompilationUnitTree unit = task.parse().iterator().next();
            task.analyze();
            Rules rules = new Rules(unit, Trees.instance(task));
            rules.scan(unit, null);
            check.due("rules broken", String.join("; ", rules.broken), "");
            check.due("classes of 12 at most", rules.classes <= 12 ? 1 : 0, 1);
            int deepest = 0;
            for (String method : rules.calls.keySet()) {
                deepest = Math.max(deepest, rules.depth(method, new LinkedHashSet<>()));
            }
            System.out.println("calls go " + deepest + " deep, the library's with them");
            check.due("calls eight deep at most", deepest <= 8 ? 1 : 0, 1);
        }
    }

    /** Goes through the source and writes down what breaks a rule, and who calls whom. */
    private static final class Rules extends TreePathScanner<Void, Void> {
        final Set<String> broken = new LinkedHashSet<>();
        final Map<String, Set<String>> calls = new LinkedHashMap<>();
        int classes = 0;
        private final CompilationUnitTree unit;
        private final Trees trees;
        private final Set<String> faceNames = new TreeSet<>();
        private String inside = "";

        Rules(CompilationUnitTree unit, Trees trees) {
            this.unit = unit;
            this.trees = trees;
            for (String method : FACE) {
                faceNames.add(method.substring(0, method.indexOf('(')));
            }
        }

        private void breaks(String rule, Tree tree) {
            long at = trees.getSourcePositions().getStartPosition(unit, tree);
            broken.add(rule + " in line " + unit.getLineMap().getLineNumber(at));
        }

        private int lines(Tree tree) {
            long from = trees.getSourcePositions().getStartPosition(unit, tree);
            long to = trees.getSourcePositions().getEndPosition(unit, tree);
            return (int) (unit.getLineMap().getLineNumber(to) - unit.getLineMap().getLineNumber(from)) + 1;
        }

        int depth(String method, Set<String> open) {
            if (!open.add(method)) {
                broken.add("recursion of " + method);
                return 0;
            }
            int deepest = 0;
            for (String called : calls.getOrDefault(method, Set.of())) {
                deepest = Math.max(deepest, depth(called, open));
            }
            open.remove(method);
            return deepest + 1;
        }

        private void called(Element element, Tree tree) {
            if (!(element instanceof ExecutableElement)) {
                breaks("a call that is not known", tree);
                return;
            }
            String full = element.getEnclosingElement() + "." + element.getSimpleName();
            if (!full.startsWith("BackPages") && !LIBRARY.contains(full)) {
                breaks("the library's " + full, tree);
            }
            calls.computeIfAbsent(inside, k -> new LinkedHashSet<>()).add(full);
        }

        @Override
        public Void visitClass(ClassTree tree, Void nothing) {
            classes++;
            TreePath outer = getCurrentPath().getParentPath();
            boolean top = outer.getLeaf() instanceof CompilationUnitTree;
            if (!top && !(outer.getLeaf() instanceof ClassTree)) {
                breaks("a local or anonymous class", tree);
            }
            Set<javax.lang.model.element.Modifier> flags = tree.getModifiers().getFlags();
            if (!top && !flags.contains(javax.lang.model.element.Modifier.STATIC)) {
                breaks("an inner class that is not static", tree);
            }
            if (tree.getKind() != Tree.Kind.CLASS) {
                breaks("another kind of class than these rules go through", tree);
            }
            int fields = 0;
            for (Tree member : tree.getMembers()) {
                if (member instanceof BlockTree) {
                    breaks("a block that sets a class or an object up", member);
                }
                if (member instanceof VariableTree field) {
                    Set<javax.lang.model.element.Modifier> of = field.getModifiers().getFlags();
                    boolean fixed = of.contains(javax.lang.model.element.Modifier.STATIC);
                    fields += fixed ? 0 : 1;
                    if (fixed && !of.contains(javax.lang.model.element.Modifier.FINAL)) {
                        breaks("a static field that is not final", field);
                    }
                    if (fixed && !STATIC_TYPES.contains(typeOf(field.getType()))) {
                        breaks("a static " + field.getType(), field);
                    }
                }
            }
            if (fields > 20) {
                breaks(fields + " fields", tree);
            }
            return super.visitClass(tree, nothing);
        }

        @Override
        public Void visitMethod(MethodTree tree, Void nothing) {
            Element element = trees.getElement(getCurrentPath());
            inside = element.getEnclosingElement() + "." + element.getSimpleName();
            calls.computeIfAbsent(inside, k -> new LinkedHashSet<>());
            boolean open = element.getModifiers().contains(javax.lang.model.element.Modifier.PUBLIC);
            if (!open && faceNames.contains(tree.getName().toString())) {
                breaks("a name of the face", tree);
            }
            if (Set.of("equals", "hashCode", "toString", "finalize", "clone").contains(tree.getName().toString())) {
                breaks("a method of Object's", tree);
            }
            if (tree.getReturnType() != null) {
                holdsType(tree.getReturnType());
            }
            if (tree.getParameters().size() > 7) {
                breaks("more than seven parameters", tree);
            }
            if (lines(tree) > 60) {
                breaks(lines(tree) + " lines", tree);
            }
            super.visitMethod(tree, nothing);
            inside = "";
            return null;
        }

        private String typeOf(Tree tree) {
            return String.valueOf(trees.getTypeMirror(TreePath.getPath(unit, tree)));
        }

        private void holdsType(Tree tree) {
            String type = typeOf(tree);
            if (!TYPES.contains(type) && !type.matches("BackPages(\\.\\w+)?(\\[\\])?")) {
                breaks("the type " + type, tree);
            }
        }

        @Override
        public Void visitVariable(VariableTree tree, Void nothing) {
            holdsType(tree.getType());
            return super.visitVariable(tree, nothing);
        }

        private boolean isText(ExpressionTree tree) {
            return typeOf(tree).equals("java.lang.String");
        }

        /** A divisor is a number that stands there, or a constant, and not 0. */
        private void holdsDivisor(ExpressionTree divisor) {
            Object value = divisor instanceof LiteralTree literal ? literal.getValue() : null;
            if (trees.getElement(TreePath.getPath(unit, divisor)) instanceof VariableElement variable) {
                value = variable.getConstantValue();
            }
            if (!(value instanceof Integer number) || number == 0) {
                breaks("a divisor that is no constant", divisor);
            }
        }

        @Override
        public Void visitBinary(BinaryTree tree, Void nothing) {
            switch (tree.getKind()) {
                case DIVIDE, REMAINDER -> holdsDivisor(tree.getRightOperand());
                case PLUS, EQUAL_TO, NOT_EQUAL_TO -> {
                    if (isText(tree.getLeftOperand()) || isText(tree.getRightOperand())) {
                        breaks("texts joined by + or compared by ==", tree);
                    }
                }
                default -> { }
            }
            return super.visitBinary(tree, nothing);
        }

        @Override
        public Void visitCompoundAssignment(CompoundAssignmentTree tree, Void nothing) {
            if (tree.getKind() == Tree.Kind.DIVIDE_ASSIGNMENT || tree.getKind() == Tree.Kind.REMAINDER_ASSIGNMENT) {
                holdsDivisor(tree.getExpression());
            }
            if (isText(tree.getVariable())) {
                breaks("texts joined by +=", tree);
            }
            return super.visitCompoundAssignment(tree, nothing);
        }

        @Override
        public Void visitForLoop(ForLoopTree tree, Void nothing) {
            if (tree.getCondition() == null || tree.getUpdate().isEmpty()) {
                breaks("a loop without an end of its own", tree);
            }
            return super.visitForLoop(tree, nothing);
        }

        @Override
        public Void visitWhileLoop(WhileLoopTree tree, Void nothing) {
            if (tree.getCondition().toString().equals("(true)")) {
                breaks("a loop without an end of its own", tree);
            }
            return super.visitWhileLoop(tree, nothing);
        }

        @Override
        public Void visitTypeCast(TypeCastTree tree, Void nothing) {
            if (!Set.of("int", "long", "byte").contains(typeOf(tree.getType()))) {
                breaks("a cast to " + tree.getType(), tree);
            }
            return super.visitTypeCast(tree, nothing);
        }

        @Override
        public Void visitLiteral(LiteralTree tree, Void nothing) {
            if (tree.getValue() instanceof String text && !text.matches("[\\x01-\\x7f]*")) {
                breaks("a sign that is not 1 to 127", tree);
            }
            return super.visitLiteral(tree, nothing);
        }

        @Override
        public Void visitMethodInvocation(MethodInvocationTree tree, Void nothing) {
            called(trees.getElement(getCurrentPath()), tree);
            return super.visitMethodInvocation(tree, nothing);
        }

        @Override
        public Void visitNewClass(NewClassTree tree, Void nothing) {
            if (!inside.isEmpty()) {
                called(trees.getElement(getCurrentPath()), tree);
            }
            return super.visitNewClass(tree, nothing);
        }

        @Override
        public Void visitNewArray(NewArrayTree tree, Void nothing) {
            if (!inside.isEmpty() && !inside.endsWith("<init>")) {
                breaks("a row made by a call", tree);
            }
            return super.visitNewArray(tree, nothing);
        }

        @Override
        public Void visitImport(ImportTree tree, Void nothing) {
            breaks("an import", tree);
            return super.visitImport(tree, nothing);
        }

        @Override
        public Void visitLambdaExpression(LambdaExpressionTree tree, Void nothing) {
            breaks("a lambda", tree);
            return super.visitLambdaExpression(tree, nothing);
        }

        @Override
        public Void visitMemberReference(MemberReferenceTree tree, Void nothing) {
            breaks("a method reference", tree);
            return super.visitMemberReference(tree, nothing);
        }

        @Override
        public Void visitThrow(ThrowTree tree, Void nothing) {
            breaks("throw", tree);
            return super.visitThrow(tree, nothing);
        }

        @Override
        public Void visitTry(TryTree tree, Void nothing) {
            breaks("try", tree);
            return super.visitTry(tree, nothing);
        }

        @Override
        public Void visitCatch(CatchTree tree, Void nothing) {
            breaks("catch", tree);
            return super.visitCatch(tree, nothing);
        }

        @Override
        public Void visitSynchronized(SynchronizedTree tree, Void nothing) {
            breaks("synchronized", tree);
            return super.visitSynchronized(tree, nothing);
        }

        @Override
        public Void visitAssert(AssertTree tree, Void nothing) {
            breaks("assert", tree);
            return super.visitAssert(tree, nothing);
        }

        @Override
        public Void visitAnnotation(AnnotationTree tree, Void nothing) {
            breaks("an annotation", tree);
            return super.visitAnnotation(tree, nothing);
        }
    }

    /** Calls make nothing: all rows are made with the object. */
    private static void room() {
        com.sun.management.ThreadMXBean thread = (com.sun.management.ThreadMXBean) ManagementFactory.getThreadMXBean();
        long id = Thread.currentThread().getId();
        BackPages x = Check.of("mark a/s 5;mark a 7;see b a;also a b;asked b 5;see c b;mark d 9;");
        callAll(x);
        long before = thread.getThreadAllocatedBytes(id);
        for (int i = 0; i < 300; i++) {
            callAll(x);
        }
        long made = thread.getThreadAllocatedBytes(id) - before;
        check.due("bytes made by 9,900 calls are few: " + made, made < 4096 ? 1 : 0, 1);
        before = thread.getThreadAllocatedBytes(id);
        BackPages other = new BackPages();
        made = thread.getThreadAllocatedBytes(id) - before;
        check.due("a new object is small: " + made, made < 60_000 && other.count(0) == 0 ? 1 : 0, 1);
    }

    private static long callAll(BackPages x) {
        long sum = x.keep(0) + x.feed(8, 0x6d61726b2061203bL) + x.read() + x.fault() + x.count(4) + x.head(0, 6);
        sum += x.name(0, -1, 0) + x.mark(0, 0) + x.add(0, 0, 3, 4, true) + x.drop(0) + x.asked(1, 7) + x.run(0, 0, 0, 0);
        sum += x.order(1) + x.at(0) + x.subAt(0, 0) + x.width(20) + x.print(3) + x.look(1, 0) + x.steps(1, 5) + x.finds(1, 3);
        sum += x.trouble(3, 0) + x.trouble(6, 0) + x.posted(2) + x.posting(50, 0) + x.fit(3, 0) + x.putIn(3, 1);
        sum += x.takeOut(4, 4) + x.stale(0) + x.forget() + x.saw(3, 5) + x.saw(4, 7) + x.story(2, 0) + x.near(0, 1);
        return sum + x.join(0, 3) + x.goBack(0);
    }
}
