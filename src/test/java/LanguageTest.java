import com.sun.source.tree.ClassTree;
import com.sun.source.tree.CompilationUnitTree;
import com.sun.source.tree.ExpressionTree;
import com.sun.source.tree.MemberSelectTree;
import com.sun.source.tree.MethodInvocationTree;
import com.sun.source.tree.MethodTree;
import com.sun.source.tree.NewArrayTree;
import com.sun.source.tree.NewClassTree;
import com.sun.source.tree.Tree;
import com.sun.source.tree.VariableTree;
import com.sun.source.util.JavacTask;
import com.sun.source.util.SourcePositions;
import com.sun.source.util.TreePathScanner;
import com.sun.source.util.TreeScanner;
import com.sun.source.util.Trees;
import java.io.IOException;
import java.lang.reflect.Constructor;
import java.lang.reflect.Field;
import java.lang.reflect.Method;
import java.lang.reflect.Modifier;
import java.nio.file.Files;
import java.nio.file.Path;
import java.util.ArrayDeque;
import java.util.ArrayList;
import java.util.Deque;
import java.util.HashSet;
import java.util.LinkedHashMap;
import java.util.LinkedHashSet;
import java.util.List;
import java.util.Map;
import java.util.Set;
import java.util.TreeSet;
import javax.lang.model.element.Element;
import javax.tools.JavaCompiler;
import javax.tools.StandardJavaFileManager;
import javax.tools.ToolProvider;

/** The face of the document and those rules of LANGUAGE.md that a look at the source can tell. */
public final class LanguageTest {
    private static final Path SOURCE = Path.of("src/main/java/FogSheets.java");
    private static final Path DOCUMENT = Path.of("../shared/DOC.md");
    private static final Set<String> LIBRARY = Set.of("Arrays.fill", "System.arraycopy", "Math.min", "Math.max",
        "Integer.bitCount");
    private static final Set<Tree.Kind> REFUSED = Set.of(Tree.Kind.THROW, Tree.Kind.TRY, Tree.Kind.SYNCHRONIZED,
        Tree.Kind.ASSERT, Tree.Kind.LAMBDA_EXPRESSION, Tree.Kind.MEMBER_REFERENCE, Tree.Kind.DOUBLE_LITERAL,
        Tree.Kind.FLOAT_LITERAL, Tree.Kind.NULL_LITERAL);
    private static final int DEEPEST = 8;

    public static void main(String[] args) throws IOException {
        face();
        rules();
        Due.end();
    }

    private static void wrong(String what) {
        Due.is("LANGUAGE: " + what, 1, 0);
    }

    /** The document's own lines, between its braces, against what the class has. */
    private static void face() throws IOException {
        String document = Files.readString(DOCUMENT);
        int from = document.indexOf("public final class FogSheets {");
        String face = document.substring(from, document.indexOf("\n}", from));
        Set<String> told = new TreeSet<>();
        for (String line : face.split("\n")) {
            String one = line.trim();
            if (one.startsWith("public ") && one.contains("(") && !one.contains("public FogSheets(")) {
                told.add(one.replaceAll(" \\w+([,)])", "$1").replace("public ", "").replace(";", ""));
            }
        }
        Set<String> there = new TreeSet<>();
        for (Method m : FogSheets.class.getDeclaredMethods()) {
            if (Modifier.isPublic(m.getModifiers())) {
                List<String> types = new ArrayList<>();
                for (Class<?> type : m.getParameterTypes()) {
                    types.add(type.getName());
                }
                there.add(m.getReturnType().getName() + " " + m.getName() + "(" + String.join(", ", types) + ")");
            } else if (!Modifier.isPrivate(m.getModifiers())) {
                wrong("rule 1, " + m);
            }
        }
        Due.is("the face: " + told + " and " + there, told.equals(there) ? 1 : 0, 1);
        Due.is("the face has methods", told.size(), 39);
        for (Field f : FogSheets.class.getDeclaredFields()) {
            boolean constant = Set.of("NONE", "BAD", "STATE", "FULL").contains(f.getName());
            Due.is("rule 1, " + f, Modifier.isPublic(f.getModifiers()) == constant
                && Modifier.isPrivate(f.getModifiers()) != constant ? 1 : 0, 1);
        }
        Constructor<?>[] constructors = FogSheets.class.getDeclaredConstructors();
        Due.is("one constructor", constructors.length, 1);
        Due.is("public and final", FogSheets.class.getModifiers(), Modifier.PUBLIC | Modifier.FINAL);
    }

    private static void rules() throws IOException {
        JavaCompiler compiler = ToolProvider.getSystemJavaCompiler();
        try (StandardJavaFileManager files = compiler.getStandardFileManager(null, null, null)) {
            JavacTask task = (JavacTask) compiler.getTask(null, files, null, null, null,
                files.getJavaFileObjects(SOURCE));
            Trees trees = Trees.instance(task);
            SourcePositions positions = trees.getSourcePositions();
            for (CompilationUnitTree unit : task.parse()) {
                boolean allowed = unit.getImports().toString().trim().equals("import java.util.Arrays;");
                Due.is("rule 4, imports", allowed ? 1 : 0, 1);
                Due.is("one class", unit.getTypeDecls().size(), 1);
                new Rules(unit, positions).scan(unit, null);
                task.analyze();
                Calls calls = new Calls(trees);
                calls.scan(unit, null);
                calls.areNotTooDeep();
            }
        }
    }

    private static final class Rules extends TreeScanner<Void, Void> {
        private final CompilationUnitTree unit;
        private final SourcePositions positions;
        private final Set<String> faceNames = new HashSet<>();
        private int classes;
        private boolean inMethod;

        Rules(CompilationUnitTree unit, SourcePositions positions) {
            this.unit = unit;
            this.positions = positions;
            for (Method m : FogSheets.class.getDeclaredMethods()) {
                if (Modifier.isPublic(m.getModifiers())) {
                    faceNames.add(m.getName());
                }
            }
        }

        @Override
        public Void scan(Tree tree, Void none) {
            if (tree != null && REFUSED.contains(tree.getKind())) {
                wrong("rule 6, " + tree);
            }
            return super.scan(tree, none);
        }

        @Override
        public Void visitClass(ClassTree tree, Void none) {
            classes++;
            int fields = 0;
            for (Tree member : tree.getMembers()) {
                if (member instanceof VariableTree v && !v.getModifiers().getFlags().toString().contains("static")) {
                    fields++;
                }
                if (member.getKind() == Tree.Kind.BLOCK) {
                    wrong("rule 5, a block in " + tree.getSimpleName());
                }
            }
            Due.is("rule 11, fields of " + tree.getSimpleName(), fields <= 20 ? 1 : 0, 1);
            Due.is("rule 11, classes", classes <= 12 ? 1 : 0, 1);
            if (inMethod || classes > 1 && !tree.getModifiers().getFlags().toString().contains("static")) {
                wrong("rule 2, " + tree.getSimpleName());
            }
            return super.visitClass(tree, none);
        }

        @Override
        public Void visitMethod(MethodTree tree, Void none) {
            long lines = line(positions.getEndPosition(unit, tree)) - line(positions.getStartPosition(unit, tree)) + 1;
            Due.is("rule 11, lines of " + tree.getName(), lines <= 60 ? 1 : 0, 1);
            Due.is("rule 11, parameters of " + tree.getName(), tree.getParameters().size() <= 7 ? 1 : 0, 1);
            boolean open = tree.getModifiers().getFlags().toString().contains("public");
            if (!open && faceNames.contains(tree.getName().toString())) {
                wrong("rule 1, the name of " + tree.getName());
            }
            inMethod = tree.getReturnType() != null;
            super.visitMethod(tree, none);
            inMethod = false;
            return null;
        }

        private long line(long position) {
            return unit.getLineMap().getLineNumber(position);
        }

        @Override
        public Void visitVariable(VariableTree tree, Void none) {
            String flags = tree.getModifiers().getFlags().toString();
            if (flags.contains("static") && !flags.contains("final")) {
                wrong("rule 5, " + tree);
            }
            return super.visitVariable(tree, none);
        }

        /** The room is one for all calls: what is needed is made in constructors alone. */
        @Override
        public Void visitNewClass(NewClassTree tree, Void none) {
            if (inMethod) {
                wrong("an object made in a call, " + tree);
            }
            return super.visitNewClass(tree, none);
        }

        @Override
        public Void visitNewArray(NewArrayTree tree, Void none) {
            if (inMethod) {
                wrong("an array made in a call, " + tree);
            }
            return super.visitNewArray(tree, none);
        }

        @Override
        public Void visitMethodInvocation(MethodInvocationTree tree, Void none) {
            ExpressionTree called = tree.getMethodSelect();
            if (called instanceof MemberSelectTree select) {
                String owner = select.getExpression().toString();
                if (Character.isUpperCase(owner.charAt(0)) && !LIBRARY.contains(called.toString())) {
                    wrong("rule 4, " + called);
                }
            }
            return super.visitMethodInvocation(tree, none);
        }
    }

    /** Which method calls which, so that the longest chain can be told; a recursion is followed once around. */
    private static final class Calls extends TreePathScanner<Void, Void> {
        private final Trees trees;
        private final Map<Element, Set<Element>> called = new LinkedHashMap<>();
        private final Deque<Element> open = new ArrayDeque<>();
        private Element caller;

        Calls(Trees trees) {
            this.trees = trees;
        }

        @Override
        public Void visitMethod(MethodTree tree, Void none) {
            caller = trees.getElement(getCurrentPath());
            called.put(caller, new LinkedHashSet<>());
            return super.visitMethod(tree, none);
        }

        @Override
        public Void visitMethodInvocation(MethodInvocationTree tree, Void none) {
            if (called.containsKey(caller)) {
                called.get(caller).add(trees.getElement(getCurrentPath()));
            }
            return super.visitMethodInvocation(tree, none);
        }

        void areNotTooDeep() {
            Due.is("methods whose calls are followed", called.size() > FogSheets.class.getMethods().length ? 1 : 0, 1);
            for (Element one : called.keySet()) {
                List<Element> chain = longestFrom(one);
                Due.is("rule 11, calls " + chain, chain.size() <= DEEPEST ? 1 : 0, 1);
            }
        }

        private List<Element> longestFrom(Element one) {
            open.push(one);
            List<Element> longest = List.of();
            for (Element next : called.get(one)) {
                if (called.containsKey(next) && !open.contains(next)) {
                    List<Element> chain = longestFrom(next);
                    longest = chain.size() > longest.size() ? chain : longest;
                }
            }
            open.pop();
            List<Element> all = new ArrayList<>(List.of(one));
            all.addAll(longest);
            return all;
        }
    }
}
