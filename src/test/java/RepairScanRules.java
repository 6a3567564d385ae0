import com.sun.source.tree.ClassTree;
import com.sun.source.tree.CompilationUnitTree;
import com.sun.source.tree.IdentifierTree;
import com.sun.source.tree.MemberSelectTree;
import com.sun.source.tree.MethodInvocationTree;
import com.sun.source.tree.MethodTree;
import com.sun.source.tree.Tree;
import com.sun.source.tree.VariableTree;
import com.sun.source.util.JavacTask;
import com.sun.source.util.SourcePositions;
import com.sun.source.util.TreeScanner;
import com.sun.source.util.Trees;
import java.lang.reflect.Constructor;
import java.lang.reflect.Field;
import java.lang.reflect.Method;
import java.lang.reflect.Modifier;
import java.nio.file.Files;
import java.nio.file.Path;
import java.util.ArrayList;
import java.util.Arrays;
import java.util.HashMap;
import java.util.HashSet;
import java.util.List;
import java.util.Map;
import java.util.Set;
import java.util.TreeSet;
import java.util.regex.Matcher;
import java.util.regex.Pattern;
import javax.tools.JavaCompiler;
import javax.tools.StandardJavaFileManager;
import javax.tools.ToolProvider;

/** The rules of LANGUAGE.md that can be counted. The first argument is the path of RepairScan.java. */
public final class RepairScanRules {
    private static final Set<String> FACE = new TreeSet<>(List.of(
            "void add(byte) UnsupportedOperationException", "int scan() IllegalStateException",
            "long found(int,int) NoSuchElementException IndexOutOfBoundsException",
            "int mended(int,int) IndexOutOfBoundsException", "int catalogue()", "int pages()",
            "int page(int) IndexOutOfBoundsException", "int cut()", "int trailer(int) IndexOutOfBoundsException",
            "int stream(int,int) NoSuchElementException IndexOutOfBoundsException",
            "boolean whole(int) NoSuchElementException", "int twice(int) IndexOutOfBoundsException", "int again()",
            "int written(int) IndexOutOfBoundsException"));
    private static final Set<String> EXCEPTIONS = Set.of("IllegalStateException", "IndexOutOfBoundsException",
            "UnsupportedOperationException", "NoSuchElementException");

    private static int wrong = 0;
    private static int right = 0;

    private RepairScanRules() {
    }

    public static void main(String[] args) throws Exception {
        Path source = Path.of(args.length > 0 ? args[0] : "src/main/java/RepairScan.java");
        face();
        words(Files.readString(source).replaceAll("(?s)/\\*.*?\\*/|//[^\n]*", " "));
        sizes(source);
        System.out.println("RepairScanRules: " + right + " passed, " + wrong + " failed");
        if (wrong != 0 || right == 0) {
            System.exit(1);
        }
    }

    private static void holds(String rule, boolean is) {
        if (is) {
            right++;
        } else {
            wrong++;
            System.out.println("not held: " + rule);
        }
    }

    private static void face() {
        Class<?> type = RepairScan.class;
        Set<String> got = new TreeSet<>();
        for (Method method : type.getDeclaredMethods()) {
            if (Modifier.isPrivate(method.getModifiers())) {
                holds("1: private " + method.getName(), FACE.stream().noneMatch(f -> f.contains(" " + method.getName() + "(")));
                continue;
            }
            StringBuilder text = new StringBuilder(method.getReturnType() + " " + method.getName() + "(");
            text.append(String.join(",", Arrays.stream(method.getParameterTypes()).map(Class::getName).toList())).append(")");
            Arrays.stream(method.getExceptionTypes()).forEach(e -> text.append(" ").append(e.getSimpleName()));
            got.add(text.toString());
        }
        holds("1: the methods are the face's: " + got, got.equals(FACE));
        holds("1: public and final", Modifier.isPublic(type.getModifiers()) && Modifier.isFinal(type.getModifiers()));
        Constructor<?>[] constructors = type.getDeclaredConstructors();
        holds("1: one constructor", constructors.length == 1 && Modifier.isPublic(constructors[0].getModifiers()));
        for (Field field : type.getDeclaredFields()) {
            holds("1: private field " + field.getName(), Modifier.isPrivate(field.getModifiers()));
        }
        for (Class<?> inner : type.getDeclaredClasses()) {
            boolean shown = Modifier.isPublic(inner.getModifiers()) || Modifier.isProtected(inner.getModifiers());
            holds("1: class " + inner.getSimpleName(), Modifier.isStatic(inner.getModifiers()) && !shown);
            for (Field field : inner.getDeclaredFields()) {
                boolean still = !Modifier.isStatic(field.getModifiers()) || Modifier.isFinal(field.getModifiers());
                holds("5: static field " + field.getName(), still);
            }
        }
    }

    private static void words(String code) {
        for (String word : List.of("catch", "try", "finally", "synchronized", "assert", "Exact", "hashCode", "toString",
                "System.out", "Thread", "Random", "nanoTime", "getMessage", "import static", "static {")) {
            holds("not used: " + word, !Pattern.compile("\\b" + Pattern.quote(word)).matcher(code).find());
        }
        holds("2: no lambda", !code.contains("->") && !code.contains("::"));
        Matcher imports = Pattern.compile("import ([\\w.]+);").matcher(code);
        while (imports.find()) {
            holds("4: " + imports.group(1), imports.group(1).equals("java.util.NoSuchElementException"));
        }
        Matcher thrown = Pattern.compile("\\bthrow\\b([^;]*);").matcher(code);
        while (thrown.find()) {
            Matcher form = Pattern.compile(" new (\\w+)\\((\"[^\"]*\")?\\)").matcher(thrown.group(1));
            holds("6: throw" + thrown.group(1), form.matches() && EXCEPTIONS.contains(form.group(1)));
        }
        holds("10: no texts joined by +", !Pattern.compile("\" *\\+|\\+ *\"").matcher(code).find());
        holds("4: signs below 128", code.chars().allMatch(c -> c < 128));
    }

    private static void sizes(Path source) throws Exception {
        JavaCompiler compiler = ToolProvider.getSystemJavaCompiler();
        try (StandardJavaFileManager files = compiler.getStandardFileManager(null, null, null)) {
            JavacTask task = (JavacTask) compiler.getTask(null, files, null, null, null,
                    files.getJavaFileObjects(source));
            SourcePositions positions = Trees.instance(task).getSourcePositions();
            for (CompilationUnitTree unit : task.parse()) {
                new Sizes(unit, positions).check();
            }
        }
    }

    /** Calls are told apart by the method's name alone, so the deepest chain counted is never less than the real one. */
    private static final class Sizes extends TreeScanner<Void, Void> {
        private final CompilationUnitTree unit;
        private final SourcePositions positions;
        private final Map<String, Set<String>> calls = new HashMap<>();
        private final List<String> open = new ArrayList<>();
        private int classes = 0;

        Sizes(CompilationUnitTree unit, SourcePositions positions) {
            this.unit = unit;
            this.positions = positions;
        }

        void check() {
            scan(unit, null);
            holds("11: " + classes + " classes", classes <= 12);
            for (String method : calls.keySet()) {
                int deep = depth(method, new HashSet<>());
                holds("11: calls from " + method + " go " + deep + " deep", deep <= 8);
            }
        }

        private int depth(String method, Set<String> above) {
            if (!calls.containsKey(method)) {
                return 0;
            }
            if (!above.add(method)) {
                holds("8: no recursion, " + method, false);
                return 100;
            }
            int deepest = 0;
            for (String called : calls.get(method)) {
                deepest = Math.max(deepest, depth(called, above));
            }
            above.remove(method);
            return deepest + 1;
        }

        private long line(long position) {
            return unit.getLineMap().getLineNumber(position);
        }

        @Override
        public Void visitClass(ClassTree tree, Void nothing) {
            classes++;
            long fields = tree.getMembers().stream().filter(m -> m.getKind() == Tree.Kind.VARIABLE).filter(
                    m -> !((VariableTree) m).getModifiers().getFlags().contains(javax.lang.model.element.Modifier.STATIC))
                    .count();
            holds("11: " + fields + " fields of " + tree.getSimpleName(), fields <= 20);
            return super.visitClass(tree, nothing);
        }

        @Override
        public Void visitMethod(MethodTree tree, Void nothing) {
            String name = tree.getName().toString();
            long lines = line(positions.getEndPosition(unit, tree)) - line(positions.getStartPosition(unit, tree)) + 1;
            holds("11: " + name + " has " + lines + " lines", lines <= 60);
            holds("11: parameters of " + name, tree.getParameters().size() <= 7);
            // The constructors all bear one name; they call nothing that calls them.
            open.add(name);
            calls.computeIfAbsent(name, n -> new HashSet<>());
            super.visitMethod(tree, nothing);
            open.remove(open.size() - 1);
            return null;
        }

        @Override
        public Void visitMethodInvocation(MethodInvocationTree tree, Void nothing) {
            Tree called = tree.getMethodSelect();
            String name = called instanceof MemberSelectTree select ? select.getIdentifier().toString()
                    : called instanceof IdentifierTree identifier ? identifier.getName().toString() : "";
            if (!open.isEmpty()) {
                calls.get(open.get(open.size() - 1)).add(name);
            }
            return super.visitMethodInvocation(tree, nothing);
        }
    }
}
