import com.sun.source.tree.AssertTree;
import com.sun.source.tree.ClassTree;
import com.sun.source.tree.CompilationUnitTree;
import com.sun.source.tree.ImportTree;
import com.sun.source.tree.InstanceOfTree;
import com.sun.source.tree.LambdaExpressionTree;
import com.sun.source.tree.LineMap;
import com.sun.source.tree.MemberReferenceTree;
import com.sun.source.tree.MethodInvocationTree;
import com.sun.source.tree.MethodTree;
import com.sun.source.tree.NewArrayTree;
import com.sun.source.tree.NewClassTree;
import com.sun.source.tree.SynchronizedTree;
import com.sun.source.tree.ThrowTree;
import com.sun.source.tree.Tree;
import com.sun.source.tree.TryTree;
import com.sun.source.tree.VariableTree;
import com.sun.source.tree.WhileLoopTree;
import com.sun.source.util.JavacTask;
import com.sun.source.util.TreePathScanner;
import com.sun.source.util.Trees;
import java.io.IOException;
import java.nio.file.Files;
import java.nio.file.Path;
import java.util.ArrayList;
import java.util.Arrays;
import java.util.HashMap;
import java.util.HashSet;
import java.util.LinkedHashSet;
import java.util.List;
import java.util.Map;
import java.util.Set;
import java.util.TreeSet;
import javax.lang.model.element.Element;
import javax.lang.model.element.ElementKind;
import javax.lang.model.element.Modifier;
import javax.tools.JavaCompiler;
import javax.tools.StandardJavaFileManager;
import javax.tools.ToolProvider;

/** Holds the source against those rules of LANGUAGE.md that can be seen in it; the path of the source is told. */
public final class LanguageRules {
    private static final Set<String> LIBRARY = new HashSet<>(Arrays.asList("Math.max", "Math.min", "Math.abs",
            "Integer.bitCount", "Integer.numberOfTrailingZeros", "System.arraycopy", "String.length", "String.charAt",
            "Object.<init>"));
    private static final int MOST_PARAMETERS = 7;
    private static final int MOST_LINES = 60;
    private static final int MOST_CLASSES = 12;
    private static final int MOST_FIELDS = 20;
    private static final int DEEPEST = 8;

    private static void wrong(String rule, String what) {
        Kit.due("rule " + rule + ": " + what, true, false);
    }

    private static void most(String rule, String what, int is, int most) {
        Kit.due("rule " + rule + ": " + what + " " + is, is <= most, true);
    }

    private static final class Reader extends TreePathScanner<Void, Void> {
        final Trees trees;
        final CompilationUnitTree unit;
        final LineMap lines;
        final Map<Element, Set<Element>> calls = new HashMap<>();
        final Set<String> publicMethods = new TreeSet<>();
        final List<String> otherMethods = new ArrayList<>();
        int classes;
        Element method;

        Reader(Trees trees, CompilationUnitTree unit) {
            this.trees = trees;
            this.unit = unit;
            lines = unit.getLineMap();
        }

        long line(Tree tree) {
            return lines.getLineNumber(trees.getSourcePositions().getStartPosition(unit, tree));
        }

        long lastLine(Tree tree) {
            return lines.getLineNumber(trees.getSourcePositions().getEndPosition(unit, tree));
        }

        @Override
        public Void visitImport(ImportTree tree, Void v) {
            wrong("4", "import in line " + line(tree));
            return null;
        }

        @Override
        public Void visitClass(ClassTree tree, Void v) {
            classes++;
            Set<Modifier> flags = tree.getModifiers().getFlags();
            boolean isOuter = classes == 1;
            Kit.due("rule 1: " + tree.getSimpleName(), flags.contains(Modifier.PUBLIC), isOuter);
            Kit.due("rule 2: static " + tree.getSimpleName(), flags.contains(Modifier.STATIC), !isOuter);
            int fields = 0;
            for (Tree member : tree.getMembers()) {
                if (member instanceof VariableTree) {
                    fields += checkField((VariableTree) member, isOuter);
                }
            }
            most("11", "fields of " + tree.getSimpleName(), fields, MOST_FIELDS);
            return super.visitClass(tree, v);
        }

        private int checkField(VariableTree field, boolean isOuter) {
            Set<Modifier> flags = field.getModifiers().getFlags();
            if (isOuter && !flags.contains(Modifier.PRIVATE) && !field.getName().contentEquals("NONE")) {
                wrong("1", "field " + field.getName());
            }
            if (flags.contains(Modifier.STATIC) && !flags.contains(Modifier.FINAL)) {
                wrong("5", "field " + field.getName());
            }
            return flags.contains(Modifier.STATIC) ? 0 : 1;
        }

        @Override
        public Void visitMethod(MethodTree tree, Void v) {
            method = trees.getElement(getCurrentPath());
            calls.putIfAbsent(method, new LinkedHashSet<>());
            String name = tree.getName().toString();
            if (method.getModifiers().contains(Modifier.PUBLIC)) {
                publicMethods.add(name);
            } else {
                otherMethods.add(name);
                boolean isOuter = method.getEnclosingElement().getSimpleName().contentEquals("DryDoors");
                if (isOuter && !method.getModifiers().contains(Modifier.PRIVATE)) {
                    wrong("1", "method " + name);
                }
            }
            most("11", "parameters of " + name, tree.getParameters().size(), MOST_PARAMETERS);
            most("11", "lines of " + name, (int) (lastLine(tree) - line(tree) + 1), MOST_LINES);
            super.visitMethod(tree, v);
            method = null;
            return null;
        }

        @Override
        public Void visitMethodInvocation(MethodInvocationTree tree, Void v) {
            Element called = trees.getElement(getCurrentPath());
            if (called != null && method != null) {
                calls.get(method).add(called);
                Element owner = called.getEnclosingElement();
                String name = owner.getSimpleName() + "." + called.getSimpleName();
                if (!owner.toString().startsWith("DryDoors") && !LIBRARY.contains(name)) {
                    wrong("4", name + " in line " + line(tree));
                }
            }
            return super.visitMethodInvocation(tree, v);
        }

        private void making(Tree tree) {
            if (method != null && method.getKind() != ElementKind.CONSTRUCTOR) {
                wrong("12", "something is made by a call in line " + line(tree));
            }
        }

        @Override
        public Void visitNewClass(NewClassTree tree, Void v) {
            making(tree);
            if (tree.getClassBody() != null) {
                wrong("2", "anonymous class in line " + line(tree));
            }
            return super.visitNewClass(tree, v);
        }

        @Override
        public Void visitNewArray(NewArrayTree tree, Void v) {
            making(tree);
            return super.visitNewArray(tree, v);
        }

        @Override
        public Void visitLambdaExpression(LambdaExpressionTree tree, Void v) {
            wrong("2", "lambda in line " + line(tree));
            return null;
        }

        @Override
        public Void visitMemberReference(MemberReferenceTree tree, Void v) {
            wrong("2", "method reference in line " + line(tree));
            return null;
        }

        @Override
        public Void visitThrow(ThrowTree tree, Void v) {
            wrong("6", "throw in line " + line(tree));
            return null;
        }

        @Override
        public Void visitTry(TryTree tree, Void v) {
            wrong("6", "try in line " + line(tree));
            return null;
        }

        @Override
        public Void visitSynchronized(SynchronizedTree tree, Void v) {
            wrong("6", "synchronized in line " + line(tree));
            return null;
        }

        @Override
        public Void visitAssert(AssertTree tree, Void v) {
            wrong("6", "assert in line " + line(tree));
            return null;
        }

        @Override
        public Void visitInstanceOf(InstanceOfTree tree, Void v) {
            wrong("6", "instanceof in line " + line(tree));
            return null;
        }

        @Override
        public Void visitWhileLoop(WhileLoopTree tree, Void v) {
            wrong("9", "a while, whose end is not counted, in line " + line(tree));
            return null;
        }

        /** How many calls stand open at most; one that calls itself counts once. */
        int depth(Element of, Set<Element> open) {
            if (!open.add(of)) {
                return 0;
            }
            int deepest = 0;
            for (Element called : calls.getOrDefault(of, Set.of())) {
                deepest = Math.max(deepest, depth(called, open));
            }
            open.remove(of);
            return deepest + 1;
        }
    }

    public static void main(String[] args) throws IOException {
        Path source = Path.of(args[0]);
        JavaCompiler compiler = ToolProvider.getSystemJavaCompiler();
        try (StandardJavaFileManager files = compiler.getStandardFileManager(null, null, null)) {
            JavacTask task = (JavacTask) compiler.getTask(null, files, null, null, null, files.getJavaFileObjects(source));
            CompilationUnitTree unit = task.parse().iterator().next();
            task.analyze();
            Kit.due("rule 1: a package", unit.getPackageName() == null, true);
            Reader reader = new Reader(Trees.instance(task), unit);
            reader.scan(unit, null);
            most("11", "classes", reader.classes, MOST_CLASSES);
            for (String name : reader.otherMethods) {
                if (reader.publicMethods.contains(name) && !name.equals("<init>")) {
                    wrong("1", "a method bears a public one's name: " + name);
                }
            }
            reader.publicMethods.remove("<init>");
            Kit.due("the face's methods", reader.publicMethods.size(), 71);
            for (Element method : reader.calls.keySet()) {
                most("11", "calls below " + method, reader.depth(method, new HashSet<>()), DEEPEST);
            }
        }
        for (char c : Files.readString(source).toCharArray()) {
            if (c != '\n' && (c < 32 || c > 126)) {
                wrong("4", "a sign beyond 127: " + (int) c);
            }
        }
        Kit.end("rules of the language");
    }
}
