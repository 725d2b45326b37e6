import com.sun.source.tree.AnnotationTree;
import com.sun.source.tree.AssertTree;
import com.sun.source.tree.BinaryTree;
import com.sun.source.tree.BlockTree;
import com.sun.source.tree.ClassTree;
import com.sun.source.tree.CompilationUnitTree;
import com.sun.source.tree.LambdaExpressionTree;
import com.sun.source.tree.MemberReferenceTree;
import com.sun.source.tree.MethodInvocationTree;
import com.sun.source.tree.MethodTree;
import com.sun.source.tree.NewClassTree;
import com.sun.source.tree.SynchronizedTree;
import com.sun.source.tree.ThrowTree;
import com.sun.source.tree.Tree;
import com.sun.source.tree.TryTree;
import com.sun.source.tree.VariableTree;
import com.sun.source.util.JavacTask;
import com.sun.source.util.TreePath;
import com.sun.source.util.TreePathScanner;
import com.sun.source.util.Trees;
import java.nio.file.Path;
import java.util.ArrayDeque;
import java.util.Deque;
import java.util.List;
import java.util.Map;
import java.util.Set;
import java.util.TreeMap;
import java.util.TreeSet;
import javax.lang.model.element.Element;
import javax.lang.model.element.ElementKind;
import javax.lang.model.element.Modifier;
import javax.lang.model.type.TypeMirror;
import javax.tools.JavaCompiler;
import javax.tools.StandardJavaFileManager;
import javax.tools.ToolProvider;

/** The rules of LANGUAGE.md that can be seen in the program's tree, as the compiler reads it. */
final class LanguageTest {
    private static final Set<String> LIBRARY = Set.of(
        "java.lang.String.length", "java.lang.String.charAt", "java.lang.Math.min", "java.lang.Math.max",
        "java.lang.Integer.bitCount", "java.lang.System.arraycopy", "java.util.Arrays.fill");
    private static final Set<String> FACE = Set.of(
        "write", "erase", "fault", "coat", "family", "as", "favour", "day", "undo", "keep", "back", "warm", "carried",
        "fewest", "swings", "lot", "win", "block", "wrong", "turns", "seen", "forget", "quotas", "frosts", "count");
    private static final int DEEPEST = 8, LONGEST = 60, MOST_PARAMETERS = 7, MOST_CLASSES = 12, MOST_FIELDS = 20;

    private LanguageTest() {
    }

    static void run() throws Exception {
        Check.part("LANGUAGE.md");
        JavaCompiler compiler = ToolProvider.getSystemJavaCompiler();
        try (StandardJavaFileManager files = compiler.getStandardFileManager(null, null, null)) {
            JavacTask task = (JavacTask) compiler.getTask(null, files, null, List.of("--release", "17"), null,
                files.getJavaFileObjects(Path.of("src/main/java/ParishCoat.java")));
            CompilationUnitTree unit = task.parse().iterator().next();
            task.analyze();
            Rules rules = new Rules(Trees.instance(task), unit);
            rules.scan(unit, null);
            rules.summary();
        }
    }

    private static void ruledOut(String what, boolean there) {
        Check.due(what, there ? 1 : 0, 0);
    }

    /** Looks at each part of the tree, and notes who calls whom. */
    private static final class Rules extends TreePathScanner<Void, Void> {
        private final Trees trees;
        private final CompilationUnitTree unit;
        private final Map<String, Set<String>> calls = new TreeMap<>();
        private final Deque<String> inside = new ArrayDeque<>();
        private int classes = 0;

        Rules(Trees trees, CompilationUnitTree unit) {
            this.trees = trees;
            this.unit = unit;
        }

        @Override
        public Void visitClass(ClassTree node, Void none) {
            classes++;
            String name = node.getSimpleName().toString();
            boolean outer = name.equals("ParishCoat");
            Set<Modifier> flags = node.getModifiers().getFlags();
            ruledOut("rule 1: the class " + name + " is public or protected",
                !outer && (flags.contains(Modifier.PUBLIC) || flags.contains(Modifier.PROTECTED)));
            ruledOut("rule 2: a class without a name or inside a method", name.isEmpty()
                || !outer && getCurrentPath().getParentPath().getLeaf().getKind() != Tree.Kind.CLASS);
            ruledOut("rule 2: the class " + name + " is not static", !outer && !flags.contains(Modifier.STATIC));
            int fields = 0;
            for (Tree member : node.getMembers()) {
                ruledOut("rule 5: a block of its own in " + name, member instanceof BlockTree);
                if (member instanceof VariableTree field) {
                    fields += isStatic(field) ? 0 : 1;
                    staticField(field);
                }
            }
            ruledOut("rule 11: fields of " + name + ": " + fields, fields > MOST_FIELDS);
            return super.visitClass(node, none);
        }

        private static boolean isStatic(VariableTree field) {
            return field.getModifiers().getFlags().contains(Modifier.STATIC);
        }

        private static void staticField(VariableTree field) {
            if (!isStatic(field)) {
                return;
            }
            ruledOut("rule 5: " + field.getName() + " is not final",
                !field.getModifiers().getFlags().contains(Modifier.FINAL));
            String type = field.getType().toString();
            ruledOut("rule 5: " + field.getName() + " is of the type " + type,
                !Set.of("int", "long", "boolean", "char", "String", "int[]", "long[]", "char[]", "byte[]").contains(type));
            ruledOut("rule 5: " + field.getName() + " is not written out", type.endsWith("[]")
                && field.getInitializer().getKind() != Tree.Kind.NEW_ARRAY);
        }

        @Override
        public Void visitMethod(MethodTree node, Void none) {
            String name = nameOf(trees.getElement(getCurrentPath()));
            long first = trees.getSourcePositions().getStartPosition(unit, node);
            long last = trees.getSourcePositions().getEndPosition(unit, node);
            if (last >= 0) {
                long lines = unit.getLineMap().getLineNumber(last) - unit.getLineMap().getLineNumber(first) + 1;
                ruledOut("rule 11: lines of " + name + ": " + lines, lines > LONGEST);
            }
            ruledOut("rule 11: parameters of " + name, node.getParameters().size() > MOST_PARAMETERS);
            boolean open = node.getModifiers().getFlags().contains(Modifier.PUBLIC);
            ruledOut("rule 1: " + name + " bears the name of a public one",
                !open && FACE.contains(node.getName().toString()));
            ruledOut("rule 6: " + name + " tells what it throws", !node.getThrows().isEmpty());
            calls.putIfAbsent(name, new TreeSet<>());
            inside.push(name);
            super.visitMethod(node, none);
            inside.pop();
            return null;
        }

        private static String nameOf(Element method) {
            return method.getEnclosingElement() + "." + method.getSimpleName();
        }

        @Override
        public Void visitMethodInvocation(MethodInvocationTree node, Void none) {
            called(trees.getElement(getCurrentPath()));
            return super.visitMethodInvocation(node, none);
        }

        @Override
        public Void visitNewClass(NewClassTree node, Void none) {
            Element made = trees.getElement(getCurrentPath());
            ruledOut("rules 3, 4: made is " + node.getIdentifier(), !isOwn(made));
            return super.visitNewClass(node, none);
        }

        private void called(Element method) {
            String name = nameOf(method);
            if (isOwn(method)) {
                if (!inside.isEmpty()) {
                    calls.computeIfAbsent(inside.peek(), n -> new TreeSet<>()).add(name);
                }
            } else if (method.getKind() != ElementKind.CONSTRUCTOR) {
                ruledOut("rule 4: the library's " + name, !LIBRARY.contains(name));
            }
        }

        private static boolean isOwn(Element element) {
            return element.getEnclosingElement().toString().startsWith("ParishCoat");
        }

        @Override
        public Void visitVariable(VariableTree node, Void none) {
            TypeMirror type = trees.getTypeMirror(new TreePath(getCurrentPath(), node.getType()));
            String name = type.toString();
            String plain = name.replace("[]", "");
            boolean number = Set.of("int", "long", "boolean").contains(plain);
            ruledOut("rule 3: " + node.getName() + " is of the type " + name,
                !number && !name.equals("java.lang.String") && !plain.startsWith("ParishCoat."));
            ruledOut("rule 3: " + node.getName() + " has two dimensions, and not of numbers",
                name.endsWith("[][]") && !number || name.endsWith("[][][]"));
            return super.visitVariable(node, none);
        }

        @Override
        public Void visitBinary(BinaryTree node, Void none) {
            for (Tree side : List.of(node.getLeftOperand(), node.getRightOperand())) {
                String type = String.valueOf(trees.getTypeMirror(new TreePath(getCurrentPath(), side)));
                ruledOut("rules 6, 10: " + node + " of texts", type.equals("java.lang.String"));
            }
            return super.visitBinary(node, none);
        }

        @Override
        public Void visitLambdaExpression(LambdaExpressionTree node, Void none) {
            ruledOut("rule 2: " + node, true);
            return null;
        }

        @Override
        public Void visitMemberReference(MemberReferenceTree node, Void none) {
            ruledOut("rule 2: " + node, true);
            return null;
        }

        @Override
        public Void visitThrow(ThrowTree node, Void none) {
            ruledOut("rule 6: " + node, true);
            return null;
        }

        @Override
        public Void visitTry(TryTree node, Void none) {
            ruledOut("rule 6: " + node, true);
            return null;
        }

        @Override
        public Void visitSynchronized(SynchronizedTree node, Void none) {
            ruledOut("rule 6: " + node, true);
            return null;
        }

        @Override
        public Void visitAssert(AssertTree node, Void none) {
            ruledOut("rule 6: " + node, true);
            return null;
        }

        @Override
        public Void visitAnnotation(AnnotationTree node, Void none) {
            ruledOut("an annotation, of which the rules tell nothing: " + node, true);
            return null;
        }

        void summary() {
            Check.due("the program's tree was read: methods of the face",
                FACE.stream().filter(name -> calls.containsKey("ParishCoat." + name)).count(), FACE.size());
            ruledOut("rule 11: classes: " + classes, classes > MOST_CLASSES);
            for (String method : calls.keySet()) {
                boolean again = reaches(method, method, new TreeSet<>());
                ruledOut("rule 8: " + method + " calls itself without a depth",
                    again && !method.equals("ParishCoat.Rota.tryFrom"));
                int deep = depth(method, new ArrayDeque<>());
                ruledOut("rule 11: " + method + " goes " + deep + " deep", deep > DEEPEST);
            }
        }

        private boolean reaches(String from, String to, Set<String> been) {
            for (String next : calls.getOrDefault(from, Set.of())) {
                if (next.equals(to) || been.add(next) && reaches(next, to, been)) {
                    return true;
                }
            }
            return false;
        }

        /** How many methods stand open at once, the first one, too, but none twice. */
        private int depth(String method, Deque<String> open) {
            int deepest = 0;
            open.push(method);
            for (String next : calls.getOrDefault(method, Set.of())) {
                if (!open.contains(next)) {
                    deepest = Math.max(deepest, depth(next, open));
                }
            }
            open.pop();
            return deepest + 1;
        }
    }
}
