import com.sun.source.tree.*;
import com.sun.source.util.JavacTask;
import com.sun.source.util.SourcePositions;
import com.sun.source.util.TreePath;
import com.sun.source.util.TreePathScanner;
import com.sun.source.util.Trees;
import java.io.File;
import java.nio.file.Files;
import java.nio.file.Path;
import java.util.*;
import javax.lang.model.element.Element;
import javax.lang.model.element.ElementKind;
import javax.lang.model.element.Modifier;
import javax.tools.JavaCompiler;
import javax.tools.StandardJavaFileManager;
import javax.tools.ToolProvider;

/** The rules of LANGUAGE.md that a machine can look at, over the class's own syntax tree. */
public final class LanguageTest {
    private static final String SOURCE = "src/main/java/SmokeRoom.java";
    private static final Path DOCUMENT = Path.of("..", "shared", "DOC.md");
    private static final Set<Tree.Kind> FORBIDDEN = EnumSet.of(Tree.Kind.THROW, Tree.Kind.TRY, Tree.Kind.CATCH,
        Tree.Kind.SYNCHRONIZED, Tree.Kind.ASSERT, Tree.Kind.LAMBDA_EXPRESSION, Tree.Kind.MEMBER_REFERENCE);
    private static final Set<String> LIBRARY = Set.of("java.lang.Math.max", "java.lang.Math.min", "java.lang.Math.abs",
        "java.lang.Integer.bitCount", "java.util.Arrays.fill", "java.lang.String.length", "java.lang.String.charAt");
    private static final String FACE = "use people person paid sees ask friends lasts size feed end row law fault force "
        + "reasons chance odds digits alone held parts gentle fright moved span crowd sooner words few run went worlds "
        + "trial weigh likely printed next street streets differs window tale image back count status";

    private static final List<String> wrong = new ArrayList<>();
    private static final Map<String, Set<String>> calls = new TreeMap<>();
    private static final Set<String> publicNames = new TreeSet<>();
    private static final Set<String> privateNames = new TreeSet<>();
    private static final Set<String> publicMethods = new TreeSet<>();

    private static void check(boolean holds, String what) {
        if (!holds) wrong.add(what);
    }

    private static final class Rules extends TreePathScanner<Void, Void> {
        private final CompilationUnitTree unit;
        private final SourcePositions places;
        private final Trees trees;
        private int classes = 0;
        private String method = "";

        Rules(CompilationUnitTree unit, Trees trees) {
            this.unit = unit;
            this.trees = trees;
            places = trees.getSourcePositions();
        }

        private long line(long place) {
            return unit.getLineMap().getLineNumber(place);
        }

        private String at(Tree tree) {
            return "line " + line(places.getStartPosition(unit, tree)) + ": ";
        }

        @Override public Void scan(Tree tree, Void v) {
            if (tree != null) check(!FORBIDDEN.contains(tree.getKind()), at(tree) + "rules 2, 6: " + tree.getKind());
            return super.scan(tree, v);
        }

        @Override public Void visitImport(ImportTree tree, Void v) {
            check(tree.getQualifiedIdentifier().toString().equals("java.util.Arrays"), at(tree) + "rule 4: " + tree);
            return null;
        }

        @Override public Void visitClass(ClassTree tree, Void v) {
            classes++;
            check(classes <= 12, at(tree) + "rule 11: too many classes");
            Set<Modifier> are = tree.getModifiers().getFlags();
            boolean outer = tree.getSimpleName().contentEquals("SmokeRoom");
            check(outer ? are.equals(EnumSet.of(Modifier.PUBLIC, Modifier.FINAL)) : are.contains(Modifier.STATIC)
                && are.contains(Modifier.PRIVATE), at(tree) + "rules 1, 2: " + tree.getSimpleName());
            int fields = 0;
            for (Tree member : tree.getMembers()) {
                check(member.getKind() != Tree.Kind.BLOCK, at(member) + "rule 5: an initialiser block");
                if (member instanceof VariableTree) {
                    Set<Modifier> flags = ((VariableTree) member).getModifiers().getFlags();
                    fields += flags.contains(Modifier.STATIC) ? 0 : 1;
                    check(!flags.contains(Modifier.STATIC) || flags.contains(Modifier.FINAL), at(member) + "rule 5: " + member);
                    boolean none = ((VariableTree) member).getName().contentEquals("NONE") && outer;
                    check(none || flags.contains(Modifier.PRIVATE), at(member) + "rule 1: " + member);
                }
            }
            check(fields <= 20, at(tree) + "rule 11: " + fields + " fields");
            return super.visitClass(tree, v);
        }

        @Override public Void visitMethod(MethodTree tree, Void v) {
            Element element = trees.getElement(getCurrentPath());
            String before = method;
            method = element.getEnclosingElement() + "." + tree.getName() + element.asType();
            calls.computeIfAbsent(method, m -> new TreeSet<>());
            Set<Modifier> are = tree.getModifiers().getFlags();
            boolean made = places.getEndPosition(unit, tree) < 0;
            if (!tree.getName().contentEquals("<init>")) {
                (are.contains(Modifier.PUBLIC) ? publicNames : privateNames).add(tree.getName().toString());
                check(are.contains(Modifier.PUBLIC) || are.contains(Modifier.PRIVATE), at(tree) + "rule 1: " + tree.getName());
            }
            if (are.contains(Modifier.PUBLIC) && tree.getReturnType() != null) {
                String taken = tree.getParameters().toString().replace(",", ", ").replace("  ", " ");
                publicMethods.add(tree.getReturnType() + " " + tree.getName() + "(" + taken + ")");
            }
            check(tree.getParameters().size() <= 7, at(tree) + "rule 11: parameters of " + tree.getName());
            if (!made) {
                long lines = line(places.getEndPosition(unit, tree)) - line(places.getStartPosition(unit, tree)) + 1;
                check(lines <= 60, at(tree) + "rule 11: " + lines + " lines of " + tree.getName());
            }
            super.visitMethod(tree, v);
            method = before;
            return null;
        }

        @Override public Void visitMethodInvocation(MethodInvocationTree tree, Void v) {
            Element called = trees.getElement(new TreePath(getCurrentPath(), tree.getMethodSelect()));
            String owner = called.getEnclosingElement().toString();
            String name = owner + "." + called.getSimpleName();
            boolean made = tree.getMethodSelect().toString().equals("super");
            if (owner.startsWith("SmokeRoom")) {
                calls.get(method).add(name + called.asType());
            } else if (!made) {
                calls.get(method).add(name);
                check(LIBRARY.contains(name), at(tree) + "rule 4: " + name);
            }
            return super.visitMethodInvocation(tree, v);
        }

        @Override public Void visitNewClass(NewClassTree tree, Void v) {
            check(tree.getClassBody() == null, at(tree) + "rule 2: an anonymous class");
            boolean within = getCurrentPath().getParentPath().getLeaf() instanceof VariableTree;
            check(within || method.contains("<init>"), at(tree) + "the room: made outside a constructor");
            return super.visitNewClass(tree, v);
        }

        @Override public Void visitNewArray(NewArrayTree tree, Void v) {
            boolean within = method.isEmpty() || method.contains("<init>");
            check(within, at(tree) + "the room: a row made outside a constructor");
            return super.visitNewArray(tree, v);
        }

        @Override public Void visitLiteral(LiteralTree tree, Void v) {
            if (tree.getValue() instanceof String) {
                check(((String) tree.getValue()).chars().allMatch(c -> c >= 1 && c <= 127), at(tree) + "rule 4: a sign");
            }
            return super.visitLiteral(tree, v);
        }

        @Override public Void visitVariable(VariableTree tree, Void v) {
            Element element = trees.getElement(getCurrentPath());
            if (element != null && element.getKind() != ElementKind.ENUM_CONSTANT) {
                String type = element.asType().toString();
                check(type.matches("(int|long|boolean|char|int\\[\\]|int\\[\\]\\[\\]|long\\[\\]|boolean\\[\\]|java.lang.String"
                    + "|SmokeRoom\\.[A-Za-z]+(\\[\\])?)"), at(tree) + "rule 3: " + type);
            }
            return super.visitVariable(tree, v);
        }
    }

    /** Groups of methods that call one another count once: the longest way from a method down. */
    private static int depth(String from, Map<String, Integer> known, Map<String, Set<String>> reach) {
        Integer was = known.get(from);
        if (was != null) return was;
        int deepest = 0;
        for (String member : reach.keySet()) {
            boolean same = member.equals(from) || reach.get(from).contains(member) && reach.get(member).contains(from);
            if (!same) continue;
            for (String to : calls.get(member)) {
                boolean inside = reach.containsKey(to) && reach.get(to).contains(from);
                if (!inside) deepest = Math.max(deepest, calls.containsKey(to) ? depth(to, known, reach) : 1);
            }
        }
        known.put(from, deepest + 1);
        return deepest + 1;
    }

    private static Map<String, Set<String>> reaches() {
        Map<String, Set<String>> all = new TreeMap<>();
        for (String from : calls.keySet()) {
            Set<String> seen = new TreeSet<>();
            Deque<String> open = new ArrayDeque<>(calls.get(from));
            while (!open.isEmpty()) {
                String one = open.pop();
                if (seen.add(one) && calls.containsKey(one)) open.addAll(calls.get(one));
            }
            all.put(from, seen);
        }
        return all;
    }

    /** The methods as the document writes them, "int use(int plan)", with their parameters' names. */
    private static Set<String> faceOfDocument() throws Exception {
        Set<String> lines = new TreeSet<>();
        if (!Files.exists(DOCUMENT)) return lines;
        String all = Files.readString(DOCUMENT);
        int from = all.indexOf("public final class SmokeRoom {");
        for (String line : all.substring(from, all.indexOf("```", from)).split("\n")) {
            String plain = line.trim();
            if (plain.startsWith("public int ")) lines.add(plain.substring(7, plain.length() - 1));
        }
        check(lines.size() == 47, "the document's face has " + lines.size() + " methods");
        return lines;
    }

    private static void checkFace() throws Exception {
        check(publicNames.equals(new TreeSet<>(Arrays.asList(FACE.split(" ")))), "rule 1: the face is " + publicNames);
        for (String name : privateNames) check(!publicNames.contains(name), "rule 1: a private " + name);
        Set<String> due = faceOfDocument();
        check(due.isEmpty() || due.equals(publicMethods), "rule 1: the document's face is " + due + ", not " + publicMethods);
        int methods = 0;
        for (java.lang.reflect.Method m : SmokeRoom.class.getDeclaredMethods()) {
            methods += java.lang.reflect.Modifier.isPublic(m.getModifiers()) ? 1 : 0;
        }
        check(methods == 47, "rule 1: " + methods + " public methods");
        check(SmokeRoom.class.getConstructors().length == 1, "rule 1: constructors");
        check(SmokeRoom.class.getConstructor().getParameterCount() == 0, "promise 1: the constructor");
        check(SmokeRoom.class.getFields().length == 1, "rule 1: constants");
        check(SmokeRoom.NONE == -1, "the constants: NONE");
    }

    public static void main(String[] args) throws Exception {
        JavaCompiler compiler = ToolProvider.getSystemJavaCompiler();
        try (StandardJavaFileManager files = compiler.getStandardFileManager(null, null, null)) {
            JavacTask task = (JavacTask) compiler.getTask(null, files, null, List.of("-proc:none"), null,
                files.getJavaFileObjects(new File(SOURCE)));
            Iterable<? extends CompilationUnitTree> units = task.parse();
            task.analyze();
            for (CompilationUnitTree unit : units) new Rules(unit, Trees.instance(task)).scan(unit, null);
        }
        Map<String, Set<String>> reach = reaches();
        Map<String, Integer> known = new TreeMap<>();
        for (String method : calls.keySet()) {
            int deep = depth(method, known, reach);
            check(deep <= 8, "rule 11: calls go " + deep + " deep from " + method);
        }
        checkFace();
        for (String line : wrong) System.out.println(line);
        System.out.println(wrong.isEmpty() ? "the rules hold, " + calls.size() + " methods" : wrong.size() + " breaks");
        if (!wrong.isEmpty()) System.exit(1);
    }
}
