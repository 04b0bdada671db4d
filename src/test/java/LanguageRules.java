import com.sun.source.tree.AssertTree;
import com.sun.source.tree.ClassTree;
import com.sun.source.tree.CompilationUnitTree;
import com.sun.source.tree.LambdaExpressionTree;
import com.sun.source.tree.MemberReferenceTree;
import com.sun.source.tree.MethodInvocationTree;
import com.sun.source.tree.MethodTree;
import com.sun.source.tree.NewArrayTree;
import com.sun.source.tree.NewClassTree;
import com.sun.source.tree.SynchronizedTree;
import com.sun.source.tree.ThrowTree;
import com.sun.source.tree.TryTree;
import com.sun.source.tree.VariableTree;
import com.sun.source.util.JavacTask;
import com.sun.source.util.SourcePositions;
import com.sun.source.util.TreePathScanner;
import com.sun.source.util.Trees;
import java.io.File;
import java.io.IOException;
import java.lang.reflect.Constructor;
import java.lang.reflect.Field;
import java.lang.reflect.Method;
import java.lang.reflect.Modifier;
import java.util.List;
import java.util.Set;
import java.util.TreeMap;
import java.util.TreeSet;
import javax.lang.model.element.Element;
import javax.lang.model.element.ElementKind;
import javax.tools.JavaCompiler;
import javax.tools.StandardJavaFileManager;
import javax.tools.ToolProvider;

/** The rules of LANGUAGE.md that a program can look at: the face, what may not stand there, lengths and depths. */
public final class LanguageRules {
    private static final String SOURCE = "src/main/java/AheadOfPerson.java";
    private static final String[] FACE = {
        "int act(int,int,int)", "int as(int,int)", "int away(int,boolean)", "int book(int,int)", "int call(int)",
        "int count(int)", "int done(int)", "int doors(int)", "int feed(int)", "int finds(int)", "int firm(int,int)",
        "int image()", "int kept(int)", "int lay(int)", "int line(int,int,int)", "int looked()",
        "int met(int)", "int move(int,int)", "int of(int,int)", "int on(int,int)", "int pass(int)",
        "int person(int,int,int)", "int plan(int,int)", "int see(int,int)", "int soonest(int,int)", "int sought()",
        "int told(int)", "int town()", "int trace(int)", "int undo()", "int walk(int)", "long mean(int,int)",
        "long odds(int,int,int)"};
    /** What the class takes of the library, all of it told in LANGUAGE.md's rule 4; Object's constructor is no choice. */
    private static final Set<String> LIBRARY = Set.of(
        "java.lang.Object.Object()", "java.lang.String.length()", "java.lang.String.charAt(int)",
        "java.lang.String.indexOf(int)", "java.lang.Math.abs(int)", "java.lang.Math.max(int,int)",
        "java.lang.Math.min(int,int)", "java.lang.Integer.bitCount(int)",
        "java.lang.System.arraycopy(java.lang.Object,int,java.lang.Object,int,int)");
    private static int wrong = 0;

    private static void rule(boolean kept, String broken) {
        if (!kept) {
            wrong++;
            System.out.println(broken);
        }
    }

    public static void main(String[] args) throws IOException {
        face();
        source();
        System.out.println(wrong == 0 ? "the rules looked at are kept" : wrong + " rules are broken");
        if (wrong != 0) {
            System.exit(1);
        }
    }

    private static void face() {
        Set<String> due = new TreeSet<>(List.of(FACE));
        Set<String> is = new TreeSet<>();
        for (Method method : AheadOfPerson.class.getDeclaredMethods()) {
            if (!Modifier.isPrivate(method.getModifiers()) && !method.isSynthetic()) {
                StringBuilder given = new StringBuilder();
                for (Class<?> type : method.getParameterTypes()) {
                    given.append(given.length() == 0 ? "" : ",").append(type.getName());
                }
                is.add(method.getReturnType().getName() + " " + method.getName() + "(" + given + ")");
            }
        }
        rule(due.equals(is), "the face is " + is);
        Set<String> constants = new TreeSet<>();
        for (Field field : AheadOfPerson.class.getDeclaredFields()) {
            if (!Modifier.isPrivate(field.getModifiers())) {
                constants.add(Modifier.toString(field.getModifiers()) + " " + field.getType() + " " + field.getName());
            }
        }
        Set<String> dueConstants = new TreeSet<>(List.of("public static final long NO"));
        for (String name : List.of("NONE", "BAD", "STATE", "FULL")) {
            dueConstants.add("public static final int " + name);
        }
        rule(dueConstants.equals(constants), "the constants are " + constants);
        Constructor<?>[] all = AheadOfPerson.class.getDeclaredConstructors();
        rule(all.length == 1 && all[0].getParameterCount() == 0, "the constructor");
        int is17 = AheadOfPerson.class.getModifiers();
        rule(Modifier.isPublic(is17) && Modifier.isFinal(is17), "the class is public and final");
    }

    private static void source() throws IOException {
        JavaCompiler compiler = ToolProvider.getSystemJavaCompiler();
        try (StandardJavaFileManager files = compiler.getStandardFileManager(null, null, null)) {
            JavacTask task = (JavacTask) compiler.getTask(
                null, files, null, List.of("-proc:none"), null, files.getJavaFileObjects(new File(SOURCE)));
            CompilationUnitTree unit = task.parse().iterator().next();
            task.analyze();
            Look look = new Look(Trees.instance(task), unit);
            look.scan(unit, null);
            rule(unit.getPackage() == null && unit.getImports().isEmpty(), "a package or an import");
            rule(look.classes <= 12, look.classes + " classes");
            look.depths();
        }
    }

    private static final class Look extends TreePathScanner<Void, Void> {
        private final Trees trees;
        private final CompilationUnitTree unit;
        private final SourcePositions positions;
        private final TreeMap<String, TreeSet<String>> calls = new TreeMap<>();
        private String method = "";
        private boolean isConstructor = false;
        private int classes = 0;

        Look(Trees trees, CompilationUnitTree unit) {
            this.trees = trees;
            this.unit = unit;
            this.positions = trees.getSourcePositions();
        }

        private static String name(Element element) {
            return element.getEnclosingElement() + "." + element;
        }

        @Override
        public Void visitClass(ClassTree tree, Void none) {
            classes++;
            long fields = tree.getMembers().stream().filter(m -> m instanceof VariableTree)
                .map(m -> (VariableTree) m)
                .filter(m -> !m.getModifiers().getFlags().contains(javax.lang.model.element.Modifier.STATIC)).count();
            rule(fields <= 20, tree.getSimpleName() + " has " + fields + " fields");
            return super.visitClass(tree, none);
        }

        @Override
        public Void visitMethod(MethodTree tree, Void none) {
            String outer = method;
            method = name(trees.getElement(getCurrentPath()));
            calls.put(method, new TreeSet<>());
            long from = unit.getLineMap().getLineNumber(Math.max(0, positions.getStartPosition(unit, tree)));
            long to = unit.getLineMap().getLineNumber(Math.max(0, positions.getEndPosition(unit, tree)));
            rule(to - from < 60, method + " has " + (to - from + 1) + " lines");
            rule(tree.getParameters().size() <= 7, method + " has many parameters");
            boolean isPublic = tree.getModifiers().getFlags().contains(javax.lang.model.element.Modifier.PUBLIC);
            boolean isOfFace = List.of(FACE).stream().anyMatch(f -> f.contains(" " + tree.getName() + "("));
            rule(isPublic == isOfFace || tree.getReturnType() == null, method + " bears the name of a public one");
            isConstructor = tree.getReturnType() == null;
            super.visitMethod(tree, none);
            method = outer;
            return null;
        }

        @Override
        public Void visitMethodInvocation(MethodInvocationTree tree, Void none) {
            called(trees.getElement(getCurrentPath()));
            return super.visitMethodInvocation(tree, none);
        }

        @Override
        public Void visitNewClass(NewClassTree tree, Void none) {
            made();
            called(trees.getElement(getCurrentPath()));
            return super.visitNewClass(tree, none);
        }

        @Override
        public Void visitNewArray(NewArrayTree tree, Void none) {
            made();
            return super.visitNewArray(tree, none);
        }

        /** All calls of one run share a room: so rows are made with the object, and used again by every call. */
        private void made() {
            rule(method.isEmpty() || isConstructor, method + " makes an object or an array");
        }

        private void called(Element element) {
            boolean isCode = element.getKind() == ElementKind.METHOD || element.getKind() == ElementKind.CONSTRUCTOR;
            boolean isOwn = name(element).startsWith("AheadOfPerson.");
            rule(isOwn || LIBRARY.contains(name(element)), method + " calls " + name(element));
            if (isCode && !method.isEmpty()) {
                calls.get(method).add(name(element));
            }
        }

        /** How deep calls go below each method, a method that calls itself counted once; the library is a level, too. */
        void depths() {
            for (String from : calls.keySet()) {
                int depth = depth(from, new TreeSet<>());
                rule(depth <= 8, from + " goes " + depth + " deep");
            }
        }

        private int depth(String from, TreeSet<String> open) {
            if (open.contains(from)) {
                return 0;
            }
            open.add(from);
            int deepest = 0;
            for (String to : calls.getOrDefault(from, new TreeSet<>())) {
                deepest = Math.max(deepest, depth(to, open));
            }
            open.remove(from);
            return deepest + 1;
        }

        @Override
        public Void visitThrow(ThrowTree tree, Void none) {
            rule(false, "throw");
            return super.visitThrow(tree, none);
        }

        @Override
        public Void visitTry(TryTree tree, Void none) {
            rule(false, "try");
            return super.visitTry(tree, none);
        }

        @Override
        public Void visitAssert(AssertTree tree, Void none) {
            rule(false, "assert");
            return super.visitAssert(tree, none);
        }

        @Override
        public Void visitSynchronized(SynchronizedTree tree, Void none) {
            rule(false, "synchronized");
            return super.visitSynchronized(tree, none);
        }

        @Override
        public Void visitLambdaExpression(LambdaExpressionTree tree, Void none) {
            rule(false, "a lambda");
            return super.visitLambdaExpression(tree, none);
        }

        @Override
        public Void visitMemberReference(MemberReferenceTree tree, Void none) {
            rule(false, "a method reference");
            return super.visitMemberReference(tree, none);
        }
    }
}
