import com.sun.source.tree.AssertTree;
import com.sun.source.tree.BinaryTree;
import com.sun.source.tree.ClassTree;
import com.sun.source.tree.CompilationUnitTree;
import com.sun.source.tree.DoWhileLoopTree;
import com.sun.source.tree.ExpressionTree;
import com.sun.source.tree.ForLoopTree;
import com.sun.source.tree.ImportTree;
import com.sun.source.tree.LambdaExpressionTree;
import com.sun.source.tree.LiteralTree;
import com.sun.source.tree.MemberReferenceTree;
import com.sun.source.tree.MethodInvocationTree;
import com.sun.source.tree.MethodTree;
import com.sun.source.tree.NewClassTree;
import com.sun.source.tree.SynchronizedTree;
import com.sun.source.tree.ThrowTree;
import com.sun.source.tree.Tree;
import com.sun.source.tree.TryTree;
import com.sun.source.tree.TypeCastTree;
import com.sun.source.tree.VariableTree;
import com.sun.source.tree.WhileLoopTree;
import com.sun.source.util.JavacTask;
import com.sun.source.util.TreePath;
import com.sun.source.util.TreePathScanner;
import com.sun.source.util.Trees;
import java.io.IOException;
import java.nio.file.Files;
import java.nio.file.Path;
import java.util.HashSet;
import java.util.List;
import java.util.Map;
import java.util.Set;
import java.util.TreeMap;
import java.util.TreeSet;
import java.util.regex.Pattern;
import javax.lang.model.element.Element;
import javax.lang.model.element.ElementKind;
import javax.lang.model.element.Modifier;
import javax.tools.JavaCompiler;
import javax.tools.StandardJavaFileManager;
import javax.tools.ToolProvider;

/** The rules of ../shared/LANGUAGE.md that can be looked up in the program's tree, as the compiler reads it. */
public final class LanguageTest {
    private static final String PROGRAM = "src/main/java/TownForest.java";
    private static final int MOST_CLASSES = 12;
    private static final int MOST_FIELDS = 20;
    private static final int MOST_PARAMETERS = 7;
    private static final int MOST_LINES = 60;
    private static final int MOST_DEEP = 8;

    private static final Pattern LIBRARY = Pattern.compile("java\\.lang\\.System\\.arraycopy"
            + "|java\\.lang\\.(Math|Integer|Long)\\.\\w+(?<!Exact)"
            + "|java\\.util\\.Arrays\\.(copyOf|copyOfRange|fill)");
    private static final Set<String> EXCEPTIONS = Set.of("IllegalStateException", "IllegalArgumentException",
            "IndexOutOfBoundsException", "ArithmeticException", "UnsupportedOperationException",
            "NoSuchElementException", "RuntimeException");
    private static final Set<String> CONSTANTS = Set.of("int", "long", "boolean", "char", "String", "int[]", "long[]",
            "char[]", "byte[]");
    private static final Set<String> TYPES = Set.of("int", "long", "short", "byte", "char", "boolean", "void");

    private LanguageTest() {
    }

    public static void main(String[] args) throws IOException {
        signs(Files.readString(Path.of(PROGRAM)));
        JavaCompiler compiler = ToolProvider.getSystemJavaCompiler();
        try (StandardJavaFileManager files = compiler.getStandardFileManager(null, null, null)) {
            JavacTask task = (JavacTask) compiler.getTask(null, files, null, List.of("-proc:none"), null,
                    files.getJavaFileObjects(PROGRAM));
            CompilationUnitTree unit = task.parse().iterator().next();
            task.analyze();
            Look look = new Look(Trees.instance(task), unit);
            look.scan(unit, null);
            look.end();
        }
        Check.end("LanguageTest");
    }

    /** Rule 4: the signs of constants; the file has no others anywhere. */
    private static void signs(String source) {
        for (int i = 0; i < source.length(); i++) {
            if (source.charAt(i) > 126) {
                Check.due("sign " + i + " of the program is " + (int) source.charAt(i) + ", within 1 .. 126", 0, 1);
            }
        }
    }

    /** Goes through the tree; what calls what is kept for the end. */
    private static final class Look extends TreePathScanner<Void, Void> {
        private final Trees trees;
        private final CompilationUnitTree unit;
        private final Map<String, Set<String>> calls = new TreeMap<>();
        private final Set<String> face = new TreeSet<>();
        private final Map<String, Boolean> own = new TreeMap<>();
        private int classes = 0;

        Look(Trees trees, CompilationUnitTree unit) {
            this.trees = trees;
            this.unit = unit;
        }

        private long line(long position) {
            return unit.getLineMap().getLineNumber(position);
        }

        private String at(Tree tree) {
            return " in line " + line(trees.getSourcePositions().getStartPosition(unit, tree));
        }

        private void rule(int number, String what, Tree tree, boolean holds) {
            Check.due("rule " + number + ": " + what + at(tree) + ", whether it holds,", holds ? 1 : 0, 1);
        }

        private MethodTree method() {
            for (TreePath path = getCurrentPath(); path != null; path = path.getParentPath()) {
                if (path.getLeaf() instanceof MethodTree found) {
                    return found;
                }
            }
            return null;
        }

        private boolean isOwn(Element type) {
            return type.toString().equals("TownForest") || type.toString().startsWith("TownForest.");
        }

        private String name(Element method) {
            return method.getEnclosingElement().getSimpleName() + "." + method.getSimpleName();
        }

        private void called(Element callee) {
            TreePath path = getCurrentPath();
            while (path != null && !(path.getLeaf() instanceof MethodTree)) {
                path = path.getParentPath();
            }
            if (path != null) {
                calls.computeIfAbsent(name(trees.getElement(path)), k -> new TreeSet<>()).add(name(callee));
            }
        }

        // ---- rules 1, 2, 5, 11: what is declared

        @Override
        public Void visitImport(ImportTree tree, Void v) {
            rule(4, "import " + tree.getQualifiedIdentifier(), tree,
                    tree.getQualifiedIdentifier().toString().equals("java.util.NoSuchElementException"));
            return super.visitImport(tree, v);
        }

        @Override
        public Void visitClass(ClassTree tree, Void v) {
            classes++;
            Element element = trees.getElement(getCurrentPath());
            boolean outer = element.toString().equals("TownForest");
            Set<Modifier> has = element.getModifiers();
            rule(1, "class " + element, tree, outer ? has.containsAll(Set.of(Modifier.PUBLIC, Modifier.FINAL))
                    : has.contains(Modifier.STATIC) && !has.contains(Modifier.PUBLIC)
                            && !has.contains(Modifier.PROTECTED));
            int fields = 0;
            for (Tree member : tree.getMembers()) {
                if (member instanceof VariableTree field && !field.getModifiers().getFlags().contains(Modifier.STATIC)) {
                    fields++;
                }
                rule(5, "no block that initialises", member, member.getKind() != Tree.Kind.BLOCK);
            }
            rule(11, element + " has " + fields + " fields", tree, fields <= MOST_FIELDS);
            return super.visitClass(tree, v);
        }

        @Override
        public Void visitMethod(MethodTree tree, Void v) {
            Element element = trees.getElement(getCurrentPath());
            String name = name(element);
            calls.computeIfAbsent(name, k -> new TreeSet<>());
            boolean isPublic = element.getModifiers().contains(Modifier.PUBLIC);
            if (isPublic && tree.getReturnType() != null) {
                face.add(tree.getName().toString());
            }
            own.put(name, isPublic);
            if (element.getEnclosingElement().toString().equals("TownForest")) {
                rule(1, name + " is public or private", tree,
                        isPublic || element.getModifiers().contains(Modifier.PRIVATE));
            }
            long lines = line(trees.getSourcePositions().getEndPosition(unit, tree))
                    - line(trees.getSourcePositions().getStartPosition(unit, tree)) + 1;
            rule(11, name + " has " + lines + " lines", tree, lines <= MOST_LINES);
            rule(11, name + " takes " + tree.getParameters().size(), tree,
                    tree.getParameters().size() <= MOST_PARAMETERS);
            return super.visitMethod(tree, v);
        }

        @Override
        public Void visitVariable(VariableTree tree, Void v) {
            Element element = trees.getElement(getCurrentPath());
            String type = element.asType().toString();
            String bare = type.replaceAll("(\\[\\]){1,2}$", "");
            rule(3, tree.getName() + " is of " + type, tree,
                    TYPES.contains(bare) || bare.startsWith("TownForest.") && !type.endsWith("[][]"));
            if (element.getKind() == ElementKind.FIELD && element.getModifiers().contains(Modifier.STATIC)) {
                rule(5, tree.getName() + " is a constant", tree, element.getModifiers().contains(Modifier.FINAL)
                        && CONSTANTS.contains(type) && tree.getInitializer() != null);
            }
            return super.visitVariable(tree, v);
        }

        // ---- rules 4, 6, 12: what is called, made, thrown

        @Override
        public Void visitMethodInvocation(MethodInvocationTree tree, Void v) {
            Element callee = trees.getElement(new TreePath(getCurrentPath(), tree.getMethodSelect()));
            if (callee.getSimpleName().contentEquals("<init>")) {
                return super.visitMethodInvocation(tree, v);
            }
            Element owner = callee.getEnclosingElement();
            if (isOwn(owner)) {
                called(callee);
            } else {
                rule(4, owner + "." + callee.getSimpleName(), tree,
                        LIBRARY.matcher(owner + "." + callee.getSimpleName()).matches());
            }
            return super.visitMethodInvocation(tree, v);
        }

        @Override
        public Void visitNewClass(NewClassTree tree, Void v) {
            Element made = trees.getElement(getCurrentPath());
            if (isOwn(made.getEnclosingElement())) {
                called(made);
                MethodTree maker = method();
                rule(12, "rows are made in constructors: new " + tree.getIdentifier(), tree,
                        maker != null && maker.getReturnType() == null);
            } else {
                rule(6, "new " + tree.getIdentifier() + " is thrown", tree,
                        getCurrentPath().getParentPath().getLeaf() instanceof ThrowTree);
            }
            return super.visitNewClass(tree, v);
        }

        @Override
        public Void visitThrow(ThrowTree tree, Void v) {
            boolean plain = false;
            if (tree.getExpression() instanceof NewClassTree made) {
                plain = EXCEPTIONS.contains(made.getIdentifier().toString()) && (made.getArguments().isEmpty()
                        || made.getArguments().size() == 1 && made.getArguments().get(0) instanceof LiteralTree);
            }
            rule(6, "throws a new one of the list with a written text", tree, plain);
            MethodTree thrower = method();
            rule(6, "only town() throws", tree, thrower != null && thrower.getName().contentEquals("town"));
            return super.visitThrow(tree, v);
        }

        // ---- rules 2, 6, 7, 9, 10: what is ruled out

        @Override
        public Void visitTry(TryTree tree, Void v) {
            rule(6, "no try", tree, false);
            return super.visitTry(tree, v);
        }

        @Override
        public Void visitLambdaExpression(LambdaExpressionTree tree, Void v) {
            rule(2, "no lambda", tree, false);
            return super.visitLambdaExpression(tree, v);
        }

        @Override
        public Void visitMemberReference(MemberReferenceTree tree, Void v) {
            rule(2, "no method reference", tree, false);
            return super.visitMemberReference(tree, v);
        }

        @Override
        public Void visitSynchronized(SynchronizedTree tree, Void v) {
            rule(6, "no synchronized", tree, false);
            return super.visitSynchronized(tree, v);
        }

        @Override
        public Void visitAssert(AssertTree tree, Void v) {
            rule(6, "no assert", tree, false);
            return super.visitAssert(tree, v);
        }

        @Override
        public Void visitTypeCast(TypeCastTree tree, Void v) {
            rule(7, "no cast but to a number", tree, TYPES.contains(tree.getType().toString()));
            return super.visitTypeCast(tree, v);
        }

        @Override
        public Void visitBinary(BinaryTree tree, Void v) {
            Tree.Kind kind = tree.getKind();
            if (kind == Tree.Kind.DIVIDE || kind == Tree.Kind.REMAINDER) {
                Element divisor = trees.getElement(new TreePath(getCurrentPath(), tree.getRightOperand()));
                boolean written = divisor != null && divisor.getModifiers().contains(Modifier.FINAL)
                        && divisor.getModifiers().contains(Modifier.STATIC);
                boolean looked = getCurrentPath().getParentPath().getLeaf().toString()
                        .startsWith(tree.getRightOperand() + " > 0 ? ");
                rule(7, "a divisor is a constant or looked at: " + tree, tree, written || looked);
            }
            String type = trees.getTypeMirror(getCurrentPath()).toString();
            rule(10, "texts are not joined by +: " + tree, tree, TYPES.contains(type));
            return super.visitBinary(tree, v);
        }

        private void ends(ExpressionTree condition, Tree loop) {
            rule(9, "a loop has a condition", loop,
                    condition != null && !condition.toString().replaceAll("[()]", "").equals("true"));
        }

        @Override
        public Void visitWhileLoop(WhileLoopTree tree, Void v) {
            ends(tree.getCondition(), tree);
            return super.visitWhileLoop(tree, v);
        }

        @Override
        public Void visitDoWhileLoop(DoWhileLoopTree tree, Void v) {
            ends(tree.getCondition(), tree);
            return super.visitDoWhileLoop(tree, v);
        }

        @Override
        public Void visitForLoop(ForLoopTree tree, Void v) {
            ends(tree.getCondition(), tree);
            return super.visitForLoop(tree, v);
        }

        // ---- rules 1, 8, 11 of the whole

        void end() {
            Check.due("rule 11: " + classes + " classes are few", classes <= MOST_CLASSES && classes > 1 ? 1 : 0, 1);
            Check.due("rule 1: methods of the face", face.size(), 43);
            for (Map.Entry<String, Boolean> method : own.entrySet()) {
                String name = method.getKey().substring(method.getKey().indexOf('.') + 1);
                Check.due("rule 1: " + method.getKey() + " bears a public name", !method.getValue()
                        && face.contains(name) ? 1 : 0, 0);
                int deep = deep(method.getKey(), new HashSet<>());
                Check.due("rules 8 and 11: " + method.getKey() + " goes " + deep + " deep, at most " + MOST_DEEP,
                        deep <= MOST_DEEP ? 1 : 0, 1);
            }
        }

        /** How many calls stand open at most, the method itself with them; far too many of one that calls itself. */
        private int deep(String method, Set<String> open) {
            if (!open.add(method)) {
                return 1000;
            }
            int most = 0;
            for (String callee : calls.getOrDefault(method, Set.of())) {
                most = Math.max(most, deep(callee, open));
            }
            open.remove(method);
            return most + 1;
        }
    }
}
