import com.sun.source.tree.AssertTree;
import com.sun.source.tree.BinaryTree;
import com.sun.source.tree.ClassTree;
import com.sun.source.tree.CompilationUnitTree;
import com.sun.source.tree.IdentifierTree;
import com.sun.source.tree.ImportTree;
import com.sun.source.tree.LambdaExpressionTree;
import com.sun.source.tree.LineMap;
import com.sun.source.tree.LiteralTree;
import com.sun.source.tree.MemberReferenceTree;
import com.sun.source.tree.MethodInvocationTree;
import com.sun.source.tree.MethodTree;
import com.sun.source.tree.NewArrayTree;
import com.sun.source.tree.NewClassTree;
import com.sun.source.tree.PackageTree;
import com.sun.source.tree.SynchronizedTree;
import com.sun.source.tree.ThrowTree;
import com.sun.source.tree.Tree;
import com.sun.source.tree.TryTree;
import com.sun.source.tree.TypeCastTree;
import com.sun.source.tree.VariableTree;
import com.sun.source.util.JavacTask;
import com.sun.source.util.TreePathScanner;
import com.sun.source.util.Trees;
import java.lang.reflect.Field;
import java.lang.reflect.Method;
import java.lang.reflect.Modifier;
import java.nio.file.Path;
import java.util.List;
import java.util.Map;
import java.util.Set;
import java.util.TreeMap;
import java.util.TreeSet;
import java.util.regex.Pattern;
import javax.lang.model.element.Element;
import javax.lang.model.element.ElementKind;
import javax.lang.model.element.ExecutableElement;
import javax.lang.model.element.TypeElement;
import javax.lang.model.type.TypeKind;
import javax.lang.model.type.TypeMirror;
import javax.tools.JavaCompiler;
import javax.tools.StandardJavaFileManager;
import javax.tools.ToolProvider;

/** The rules of LANGUAGE.md that can be seen by the compiler's tree of the source, or by the class. */
public final class LanguageTest {
    private static final Due due = new Due("LanguageTest");
    private static final Set<String> FACE = Set.of("feed", "end", "text", "fault", "crossbar", "deed", "stop", "state",
        "cell", "full", "rhythm", "judge", "mimic", "flow", "after", "fact", "fits", "drawn", "count", "image", "again");
    private static final Set<String> LIBRARY_TYPES = Set.of("java.lang.String", "java.lang.StringBuilder", "java.lang.Integer",
        "java.lang.Long", "java.lang.Math", "java.lang.System", "java.lang.Override", "java.lang.Object", "java.lang.Iterable",
        "java.lang.Comparable", "java.util.ArrayList", "java.util.List", "java.util.Arrays", "java.util.Iterator");
    private static final Pattern LIBRARY_CALLS = Pattern.compile(
        "java\\.lang\\.String\\.(length|charAt|isEmpty|equals|indexOf|substring|toCharArray|<init>)"
        + "|java\\.lang\\.StringBuilder\\.(append|charAt|setCharAt|setLength|deleteCharAt|reverse|length|toString|<init>)"
        + "|java\\.util\\.(ArrayList|List)(<.*>)?\\.(add|get|set|remove|size|isEmpty|clear|of|<init>)"
        + "|java\\.util\\.Arrays\\.(copyOf|copyOfRange|fill)|java\\.lang\\.System\\.arraycopy"
        + "|java\\.lang\\.Object\\.(<init>|clone)|java\\.lang\\.(Math|Integer|Long)\\.(?!random|valueOf|parse|.*Exact).*");
    private static final int LINES = 60;
    private static final int PARAMETERS = 7;
    private static final int CLASSES = 12;
    private static final int FIELDS = 20;
    private static final int DEEP = 8;

    private LanguageTest() {
    }

    public static void main(String[] args) throws Exception {
        face();
        Rules rules = new Rules();
        JavaCompiler compiler = ToolProvider.getSystemJavaCompiler();
        try (StandardJavaFileManager files = compiler.getStandardFileManager(null, null, null)) {
            Path source = Path.of(args.length > 0 ? args[0] : "src/main/java/CrossbarHouse.java");
            JavacTask task = (JavacTask) compiler.getTask(null, files, null, List.of("-proc:none"), null,
                files.getJavaFileObjects(source));
            Iterable<? extends CompilationUnitTree> units = task.parse();
            task.analyze();
            rules.trees = Trees.instance(task);
            for (CompilationUnitTree unit : units) {
                due.same("classes of the file", unit.getTypeDecls().size(), 1);
                rules.unit = unit;
                rules.scan(unit, null);
            }
        }
        rules.depths();
        due.end();
    }

    private static void face() {
        Set<String> seen = new TreeSet<>();
        for (Method m : CrossbarHouse.class.getDeclaredMethods()) {
            if (Modifier.isPublic(m.getModifiers())) {
                seen.add(m.getName());
            } else if (!m.isSynthetic()) {
                due.same("rule 1, private method " + m.getName(), Modifier.isPrivate(m.getModifiers()), true);
                due.same("rule 1, a public one's name: " + m.getName(), FACE.contains(m.getName()), false);
            }
        }
        due.same("rule 1, the face is " + seen, seen.equals(FACE), true);
        for (Field f : CrossbarHouse.class.getDeclaredFields()) {
            boolean isFace = f.getName().equals("NONE");
            due.same("rule 1, field " + f.getName(), isFace ? Modifier.isPublic(f.getModifiers())
                : Modifier.isPrivate(f.getModifiers()), true);
        }
        Class<?>[] inside = CrossbarHouse.class.getDeclaredClasses();
        due.same("rule 11, classes", inside.length + 1 <= CLASSES, true);
        for (Class<?> c : inside) {
            due.same("rule 2, " + c + " is static", Modifier.isStatic(c.getModifiers()), true);
            for (Method m : c.getDeclaredMethods()) {
                boolean isPrivate = Modifier.isPrivate(m.getModifiers());
                due.same("rule 1, a public one's name: " + m.getName(), isPrivate && FACE.contains(m.getName()), false);
            }
        }
    }

    /** Walks over the whole source once, and keeps who calls whom. */
    private static final class Rules extends TreePathScanner<Void, Void> {
        private Trees trees;
        private CompilationUnitTree unit;
        private String method = "";
        private final Map<String, Set<String>> calls = new TreeMap<>();
        private final Set<String> faceMethods = new TreeSet<>();

        private void never(String rule, Tree tree) {
            LineMap lines = unit.getLineMap();
            long line = lines.getLineNumber(trees.getSourcePositions().getStartPosition(unit, tree));
            due.same("rule " + rule + ", line " + line + ": " + tree.toString().split("\n")[0], true, false);
        }

        private Element elementHere() {
            return trees.getElement(getCurrentPath());
        }

        private static boolean isOwn(Element element) {
            Element outer = element;
            while (outer.getEnclosingElement() != null && outer.getEnclosingElement().getKind() != ElementKind.PACKAGE) {
                outer = outer.getEnclosingElement();
            }
            return outer.getSimpleName().contentEquals("CrossbarHouse");
        }

        private static String nameOf(Element element) {
            return element.getEnclosingElement() + "." + element;
        }

        @Override
        public Void visitClass(ClassTree tree, Void none) {
            Element element = elementHere();
            if (element.getEnclosingElement().getKind() == ElementKind.METHOD || tree.getSimpleName().length() == 0) {
                never("2", tree);
            }
            int fields = 0;
            for (Tree member : tree.getMembers()) {
                if (member.getKind() == Tree.Kind.BLOCK) {
                    never("5", member);
                }
                if (member instanceof VariableTree field
                        && !field.getModifiers().getFlags().contains(javax.lang.model.element.Modifier.STATIC)) {
                    fields++;
                }
            }
            due.same("rule 11, fields of " + element, fields <= FIELDS, true);
            return super.visitClass(tree, none);
        }

        @Override
        public Void visitMethod(MethodTree tree, Void none) {
            Element element = elementHere();
            String outer = method;
            method = nameOf(element);
            calls.computeIfAbsent(method, k -> new TreeSet<>());
            if (element.getModifiers().contains(javax.lang.model.element.Modifier.PUBLIC)) {
                faceMethods.add(method);
            }
            LineMap lines = unit.getLineMap();
            long first = lines.getLineNumber(trees.getSourcePositions().getStartPosition(unit, tree));
            long last = first;
            if (trees.getSourcePositions().getEndPosition(unit, tree) >= 0) {
                last = lines.getLineNumber(trees.getSourcePositions().getEndPosition(unit, tree));
            }
            due.same("rule 11, lines of " + method, last - first < LINES, true);
            due.same("rule 11, parameters of " + method, tree.getParameters().size() <= PARAMETERS, true);
            super.visitMethod(tree, none);
            method = outer;
            return null;
        }

        @Override
        public Void visitVariable(VariableTree tree, Void none) {
            Element element = elementHere();
            Set<javax.lang.model.element.Modifier> flags = tree.getModifiers().getFlags();
            if (element.getKind() == ElementKind.FIELD && flags.contains(javax.lang.model.element.Modifier.STATIC)
                    && !flags.contains(javax.lang.model.element.Modifier.FINAL)) {
                never("5", tree);
            }
            TypeMirror type = element.asType();
            if (type.getKind() == TypeKind.ARRAY && flags.contains(javax.lang.model.element.Modifier.STATIC)
                    && !(tree.getInitializer() instanceof NewArrayTree row && row.getInitializers() != null)) {
                never("5", tree);
            }
            return super.visitVariable(tree, none);
        }

        @Override
        public Void visitMethodInvocation(MethodInvocationTree tree, Void none) {
            note(elementHere(), tree);
            return super.visitMethodInvocation(tree, none);
        }

        @Override
        public Void visitNewClass(NewClassTree tree, Void none) {
            note(elementHere(), tree);
            return super.visitNewClass(tree, none);
        }

        private void note(Element called, Tree tree) {
            if (!(called instanceof ExecutableElement)) {
                never("4", tree);
            } else if (isOwn(called)) {
                calls.computeIfAbsent(method, k -> new TreeSet<>()).add(nameOf(called));
            } else {
                String name = called.getEnclosingElement() + "." + called.getSimpleName();
                if (!LIBRARY_CALLS.matcher(name).matches()) {
                    never("4", tree);
                }
            }
        }

        @Override
        public Void visitIdentifier(IdentifierTree tree, Void none) {
            if (elementHere() instanceof TypeElement type && !isOwn(type)
                    && !LIBRARY_TYPES.contains(type.getQualifiedName().toString())) {
                never("3", tree);
            }
            return super.visitIdentifier(tree, none);
        }

        @Override
        public Void visitBinary(BinaryTree tree, Void none) {
            if (String.valueOf(trees.getTypeMirror(getCurrentPath())).equals("java.lang.String")) {
                never("10", tree);
            }
            return super.visitBinary(tree, none);
        }

        @Override
        public Void visitTypeCast(TypeCastTree tree, Void none) {
            if (!trees.getTypeMirror(getCurrentPath()).getKind().isPrimitive()) {
                never("6", tree);
            }
            return super.visitTypeCast(tree, none);
        }

        @Override
        public Void visitLiteral(LiteralTree tree, Void none) {
            for (char sign : String.valueOf(tree.getValue()).toCharArray()) {
                due.same("rule 4, sign " + (int) sign, sign < 128, true);
            }
            return super.visitLiteral(tree, none);
        }

        @Override
        public Void visitImport(ImportTree tree, Void none) {
            if (!LIBRARY_TYPES.contains(tree.getQualifiedIdentifier().toString())) {
                never("4", tree);
            }
            return null;
        }

        @Override
        public Void visitPackage(PackageTree tree, Void none) {
            never("1", tree);
            return null;
        }

        @Override
        public Void visitLambdaExpression(LambdaExpressionTree tree, Void none) {
            never("2", tree);
            return null;
        }

        @Override
        public Void visitMemberReference(MemberReferenceTree tree, Void none) {
            never("2", tree);
            return null;
        }

        @Override
        public Void visitTry(TryTree tree, Void none) {
            never("6", tree);
            return null;
        }

        @Override
        public Void visitThrow(ThrowTree tree, Void none) {
            never("6", tree);
            return null;
        }

        @Override
        public Void visitSynchronized(SynchronizedTree tree, Void none) {
            never("6", tree);
            return null;
        }

        @Override
        public Void visitAssert(AssertTree tree, Void none) {
            never("6", tree);
            return null;
        }

        private void depths() {
            due.same("methods of the face were seen", faceMethods.size() > FACE.size(), true);
            for (String start : faceMethods) {
                due.same("rule 11, how deep calls of " + start + " go", depthOf(start, new TreeSet<>()) <= DEEP, true);
            }
        }

        /** Calls that are no recursion: one that is open already is not gone into again. */
        private int depthOf(String name, Set<String> open) {
            if (!open.add(name)) {
                return 0;
            }
            int most = 0;
            for (String called : calls.getOrDefault(name, Set.of())) {
                most = Math.max(most, depthOf(called, open));
            }
            open.remove(name);
            return most + 1;
        }
    }
}
