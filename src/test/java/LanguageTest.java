import com.sun.source.tree.ArrayTypeTree;
import com.sun.source.tree.BinaryTree;
import com.sun.source.tree.ClassTree;
import com.sun.source.tree.CompilationUnitTree;
import com.sun.source.tree.LineMap;
import com.sun.source.tree.MethodInvocationTree;
import com.sun.source.tree.MethodTree;
import com.sun.source.tree.NewArrayTree;
import com.sun.source.tree.NewClassTree;
import com.sun.source.tree.Tree;
import com.sun.source.tree.VariableTree;
import com.sun.source.util.JavacTask;
import com.sun.source.util.SourcePositions;
import com.sun.source.util.TreePathScanner;
import com.sun.source.util.Trees;
import java.io.IOException;
import java.nio.file.Files;
import java.nio.file.Path;
import java.util.ArrayList;
import java.util.HashMap;
import java.util.HashSet;
import java.util.List;
import java.util.Map;
import java.util.Set;
import java.util.TreeSet;
import java.util.regex.Matcher;
import java.util.regex.Pattern;
import javax.lang.model.element.Element;
import javax.lang.model.element.ExecutableElement;
import javax.lang.model.element.Modifier;
import javax.tools.JavaCompiler;
import javax.tools.StandardJavaFileManager;
import javax.tools.ToolProvider;

/**
 * Holds the class against the rules of LANGUAGE.md that can be seen in its source, and against the document's face.
 * Beyond these rules it asks that only constructors make objects and arrays, so that no run outgrows its room.
 */
public final class LanguageTest {
    private static final int DEEPEST = 8;
    private static final int LONGEST_METHOD = 60;
    private static final Set<String> LIBRARY = Set.of("java.lang.String.length", "java.lang.String.charAt",
            "java.lang.Math.abs", "java.lang.Math.max", "java.lang.Math.min", "java.lang.Integer.bitCount",
            "java.lang.System.arraycopy", "java.lang.Object.<init>");
    private static final Set<Tree.Kind> BANNED = Set.of(Tree.Kind.THROW, Tree.Kind.TRY, Tree.Kind.CATCH,
            Tree.Kind.SYNCHRONIZED, Tree.Kind.ASSERT, Tree.Kind.LAMBDA_EXPRESSION, Tree.Kind.MEMBER_REFERENCE);

    private static final List<String> FAULTS = new ArrayList<>();

    public static void main(String[] args) throws IOException {
        Path source = Path.of(args.length > 0 ? args[0] : "src/main/java/SectionOffice.java");
        Path document = Path.of(args.length > 1 ? args[1] : "../shared", "DOC.md");
        JavaCompiler compiler = ToolProvider.getSystemJavaCompiler();
        try (StandardJavaFileManager files = compiler.getStandardFileManager(null, null, null)) {
            JavacTask task = (JavacTask) compiler.getTask(null, files, null, List.of("-proc:none"), null,
                    files.getJavaFileObjects(source));
            CompilationUnitTree unit = task.parse().iterator().next();
            task.analyze();
            Scanner scanner = new Scanner(unit, Trees.instance(task));
            scanner.scan(unit, null);
            scanner.afterwards();
            checkFace(scanner.face, document);
        }
        checkSigns(Files.readString(source));
        checkHeadings(Files.readString(source), Files.readString(document));
        FAULTS.forEach(System.out::println);
        System.out.println(FAULTS.isEmpty() ? "the source keeps to the rules" : FAULTS.size() + " rules are broken");
        if (!FAULTS.isEmpty()) {
            System.exit(1);
        }
    }

    private static void checkSigns(String source) {
        for (int i = 0; i < source.length(); i++) {
            if (source.charAt(i) > 127) {
                FAULTS.add("rule 4: a sign above 127 at " + i);
            }
        }
    }

    /** Ahead of which calls the document wants which words, the latest heading being the one that counts. */
    private static void checkHeadings(String source, String document) {
        Matcher due = Pattern.compile("(?m)^Ahead of the calls (.*) the interface says: (---- .*)\\.$").matcher(document);
        int headings = 0;
        while (due.find()) {
            headings++;
            for (String call : due.group(1).replace("`", "").split(", ")) {
                Matcher m = Pattern.compile("\n    public (?:int|long) " + call + "\\(").matcher(source);
                int from = m.find() ? source.lastIndexOf("\n    // ---- ", m.start()) : -1;
                if (from < 0 || !source.startsWith("\n    // " + due.group(2) + "\n", from)) {
                    FAULTS.add("ahead of " + call + " the document wants: " + due.group(2));
                }
            }
        }
        if (headings == 0) {
            FAULTS.add("the document tells no words ahead of the calls");
        }
    }

    private static void checkFace(Set<String> face, Path document) throws IOException {
        Set<String> due = new TreeSet<>();
        Matcher m = Pattern.compile("    public ([^;{]*);").matcher(Files.readString(document));
        while (m.find()) {
            due.add(m.group(1));
        }
        if (!due.equals(face)) {
            Set<String> differ = new TreeSet<>(due);
            differ.removeAll(face);
            Set<String> more = new TreeSet<>(face);
            more.removeAll(due);
            FAULTS.add("rule 1: the face lacks " + differ + " and has besides " + more);
        }
    }

    private static final class Scanner extends TreePathScanner<Void, Void> {
        private final CompilationUnitTree unit;
        private final Trees trees;
        private final SourcePositions positions;
        private final LineMap lines;
        private final Set<String> face = new TreeSet<>();
        private final Set<String> publicNames = new HashSet<>();
        private final Set<String> otherNames = new HashSet<>();
        private final Map<Element, Set<Element>> calls = new HashMap<>();
        private int classes;
        private Element method;

        Scanner(CompilationUnitTree unit, Trees trees) {
            this.unit = unit;
            this.trees = trees;
            positions = trees.getSourcePositions();
            lines = unit.getLineMap();
        }

        private void fault(Tree at, String text) {
            FAULTS.add("line " + lines.getLineNumber(positions.getStartPosition(unit, at)) + ": " + text);
        }

        @Override
        public Void scan(Tree tree, Void v) {
            if (tree != null && BANNED.contains(tree.getKind())) {
                fault(tree, "rule 6 or 2: " + tree.getKind());
            }
            return super.scan(tree, v);
        }

        @Override
        public Void visitClass(ClassTree tree, Void v) {
            classes++;
            boolean outer = getCurrentPath().getParentPath().getLeaf() instanceof CompilationUnitTree;
            Set<Modifier> flags = tree.getModifiers().getFlags();
            if (outer ? !flags.containsAll(Set.of(Modifier.PUBLIC, Modifier.FINAL)) : !flags.contains(Modifier.STATIC)) {
                fault(tree, "rules 1, 2: the class is not as it must be");
            }
            int fields = 0;
            for (Tree member : tree.getMembers()) {
                if (member instanceof VariableTree field) {
                    fields += field.getModifiers().getFlags().contains(Modifier.STATIC) ? 0 : 1;
                    checkField(field);
                } else if (member.getKind() == Tree.Kind.BLOCK) {
                    fault(member, "rule 5: an initialiser block");
                }
            }
            if (fields > 20) {
                fault(tree, "rule 11: " + fields + " fields");
            }
            return super.visitClass(tree, v);
        }

        private void checkField(VariableTree field) {
            Set<Modifier> flags = field.getModifiers().getFlags();
            if (!flags.contains(Modifier.PRIVATE)) {
                fault(field, "rule 1: a field that isn't private");
            }
            if (flags.contains(Modifier.STATIC) && !flags.contains(Modifier.FINAL)) {
                fault(field, "rule 5: static state");
            }
        }

        @Override
        public Void visitMethod(MethodTree tree, Void v) {
            Element before = method;
            method = trees.getElement(getCurrentPath());
            calls.putIfAbsent(method, new HashSet<>());
            boolean outer = method.getEnclosingElement().getSimpleName().contentEquals("SectionOffice");
            String name = tree.getName().toString();
            if (outer && tree.getModifiers().getFlags().contains(Modifier.PUBLIC)) {
                face.add(signature(tree, name));
                publicNames.add(name);
            } else {
                otherNames.add(name);
                if (outer && !tree.getModifiers().getFlags().contains(Modifier.PRIVATE)) {
                    fault(tree, "rule 1: " + name + " is seen in the package");
                }
            }
            if (tree.getParameters().size() > 7) {
                fault(tree, "rule 11: parameters of " + name);
            }
            long first = lines.getLineNumber(positions.getStartPosition(unit, tree));
            long last = lines.getLineNumber(positions.getEndPosition(unit, tree));
            if (last - first + 1 > LONGEST_METHOD) {
                fault(tree, "rule 11: " + name + " is too long");
            }
            super.visitMethod(tree, v);
            method = before;
            return null;
        }

        private static String signature(MethodTree tree, String name) {
            StringBuilder text = new StringBuilder();
            text.append(tree.getReturnType() == null ? "" : tree.getReturnType() + " ");
            text.append(tree.getReturnType() == null ? "SectionOffice" : name).append('(');
            String gap = "";
            for (VariableTree p : tree.getParameters()) {
                text.append(gap).append(p.getType()).append(' ').append(p.getName());
                gap = ", ";
            }
            return text.append(')').toString();
        }

        @Override
        public Void visitMethodInvocation(MethodInvocationTree tree, Void v) {
            Element called = trees.getElement(getCurrentPath());
            String owner = called.getEnclosingElement().toString();
            if (owner.startsWith("SectionOffice")) {
                if (method != null) {
                    calls.get(method).add(called);
                }
            } else if (!LIBRARY.contains(owner + "." + called.getSimpleName())) {
                fault(tree, "rule 4: " + owner + "." + called.getSimpleName());
            }
            return super.visitMethodInvocation(tree, v);
        }

        @Override
        public Void visitNewClass(NewClassTree tree, Void v) {
            checkMaking(tree);
            if (tree.getClassBody() != null) {
                fault(tree, "rule 2: an anonymous class");
            }
            return super.visitNewClass(tree, v);
        }

        @Override
        public Void visitNewArray(NewArrayTree tree, Void v) {
            checkMaking(tree);
            return super.visitNewArray(tree, v);
        }

        private void checkMaking(Tree tree) {
            if (method instanceof ExecutableElement made && !made.getSimpleName().contentEquals("<init>")) {
                fault(tree, "rule 12: made outside a constructor");
            }
        }

        @Override
        public Void visitArrayType(ArrayTypeTree tree, Void v) {
            if (tree.getType() instanceof ArrayTypeTree) {
                fault(tree, "rule 3: looked for no array of two dimensions");
            }
            return super.visitArrayType(tree, v);
        }

        @Override
        public Void visitBinary(BinaryTree tree, Void v) {
            boolean text = trees.getTypeMirror(getCurrentPath()).toString().equals("java.lang.String");
            if (text) {
                fault(tree, "rule 10: texts joined by +");
            }
            return super.visitBinary(tree, v);
        }

        void afterwards() {
            Set<String> twice = new TreeSet<>(publicNames);
            twice.retainAll(otherNames);
            twice.remove("<init>");
            if (!twice.isEmpty()) {
                FAULTS.add("rule 1: others bear names of the face: " + twice);
            }
            if (classes > 12) {
                FAULTS.add("rule 11: " + classes + " classes");
            }
            for (Element from : calls.keySet()) {
                int depth = depth(from, 1);
                if (depth > DEEPEST) {
                    FAULTS.add("rules 8, 11: calls from " + from + " go " + depth + " deep");
                }
            }
        }

        private int depth(Element from, int above) {
            if (above > 2 * DEEPEST) {
                return above;
            }
            int most = above;
            for (Element to : calls.getOrDefault(from, Set.of())) {
                most = Math.max(most, depth(to, above + 1));
            }
            return most;
        }
    }
}
