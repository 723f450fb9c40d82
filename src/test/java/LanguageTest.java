import com.sun.source.tree.AssertTree;
import com.sun.source.tree.BinaryTree;
import com.sun.source.tree.ClassTree;
import com.sun.source.tree.CompilationUnitTree;
import com.sun.source.tree.ImportTree;
import com.sun.source.tree.InstanceOfTree;
import com.sun.source.tree.LambdaExpressionTree;
import com.sun.source.tree.MemberReferenceTree;
import com.sun.source.tree.MethodInvocationTree;
import com.sun.source.tree.MethodTree;
import com.sun.source.tree.NewClassTree;
import com.sun.source.tree.SynchronizedTree;
import com.sun.source.tree.ThrowTree;
import com.sun.source.tree.Tree;
import com.sun.source.tree.TryTree;
import com.sun.source.tree.TypeCastTree;
import com.sun.source.tree.VariableTree;
import com.sun.source.util.JavacTask;
import com.sun.source.util.TreePath;
import com.sun.source.util.TreePathScanner;
import com.sun.source.util.Trees;
import java.nio.file.Path;
import java.util.ArrayList;
import java.util.Arrays;
import java.util.HashMap;
import java.util.HashSet;
import java.util.LinkedHashMap;
import java.util.LinkedHashSet;
import java.util.List;
import java.util.Map;
import java.util.Set;
import java.util.TreeSet;
import javax.lang.model.element.Element;
import javax.lang.model.element.ElementKind;
import javax.lang.model.element.ExecutableElement;
import javax.lang.model.element.Modifier;
import javax.tools.JavaCompiler;
import javax.tools.StandardJavaFileManager;
import javax.tools.ToolProvider;

/** The rules of ../shared/LANGUAGE.md that can be seen in the source of src/main/java/MillBoats.java. */
public final class LanguageTest extends TreePathScanner<Void, Void> {
    private static final Set<String> FACE = new TreeSet<>(Arrays.asList("bed", "point", "value", "mill", "moor",
            "dress", "flow", "power", "pull", "loss", "height", "ice", "heightOf", "iceOf", "feed", "end", "rules",
            "place", "barred", "word", "way", "kept", "skiffs", "order", "day", "event", "plan", "planned", "moves",
            "move", "go", "millOf", "orderOf", "count"));
    private static final Set<String> LIBRARY = new HashSet<>(Arrays.asList("String.length", "String.charAt",
            "Math.min", "Math.max", "Math.abs", "Math.floorDiv", "Math.floorMod", "Integer.bitCount",
            "Arrays.fill", "Arrays.copyOf", "Arrays.copyOfRange", "System.arraycopy"));
    private static final Set<String> MADE = new HashSet<>(Arrays.asList("NoSuchElementException"));
    private static final Set<String> IMPORTS = new HashSet<>(Arrays.asList(
            "java.util.Arrays", "java.util.NoSuchElementException"));

    private final CompilationUnitTree unit;
    private final Trees trees;
    private final Map<String, Set<String>> calls = new LinkedHashMap<>();
    private final Set<String> publicMethods = new TreeSet<>();
    private int classes = 0;

    private LanguageTest(CompilationUnitTree unit, Trees trees) {
        this.unit = unit;
        this.trees = trees;
    }

    public static void main(String[] args) throws Exception {
        JavaCompiler compiler = ToolProvider.getSystemJavaCompiler();
        StandardJavaFileManager files = compiler.getStandardFileManager(null, null, null);
        JavacTask task = (JavacTask) compiler.getTask(null, files, null, Arrays.asList("-proc:none"), null,
                files.getJavaFileObjects(Path.of("src/main/java/MillBoats.java")));
        CompilationUnitTree unit = task.parse().iterator().next();
        task.analyze();
        LanguageTest test = new LanguageTest(unit, Trees.instance(task));
        test.scan(unit, null);
        test.dueAll();
        Check.finish();
    }

    private void dueAll() {
        Check.due("rule 1: no package", unit.getPackageName() == null, true);
        Check.due("rule 1: the face is as in the document: " + publicMethods, publicMethods.equals(FACE), true);
        Check.due("rule 11: some twelve classes: " + classes, classes <= 12, true);
        String deep = deepest();
        Check.due("rule 11: calls at most eight deep: " + deep, deep.split(" ").length <= 8, true);
    }

    private String here(Tree tree) {
        long at = trees.getSourcePositions().getStartPosition(unit, tree);
        return "line " + unit.getLineMap().getLineNumber(at) + ": ";
    }

    private void refuse(Tree tree, String why) {
        Check.due(here(tree) + why, 1, 0);
    }

    private Element elementHere() {
        return trees.getElement(getCurrentPath());
    }

    private <T extends Tree> Element inside(Class<T> kind) {
        for (TreePath path = getCurrentPath(); path != null; path = path.getParentPath()) {
            if (kind.isInstance(path.getLeaf())) {
                return trees.getElement(path);
            }
        }
        return null;
    }

    @Override
    public Void visitImport(ImportTree tree, Void none) {
        String name = tree.getQualifiedIdentifier().toString();
        Check.due(here(tree) + "rule 4: import " + name, IMPORTS.contains(name), true);
        return super.visitImport(tree, none);
    }

    @Override
    public Void visitClass(ClassTree tree, Void none) {
        classes++;
        Element type = elementHere();
        boolean face = type.getSimpleName().contentEquals("MillBoats");
        Set<Modifier> is = type.getModifiers();
        Check.due(here(tree) + "rule 1: public, or inside and not public",
                face ? is.contains(Modifier.PUBLIC) && is.contains(Modifier.FINAL)
                        : !is.contains(Modifier.PUBLIC) && !is.contains(Modifier.PROTECTED)
                                && is.contains(Modifier.STATIC), true);
        int fields = 0;
        for (Element member : type.getEnclosedElements()) {
            boolean isStatic = member.getModifiers().contains(Modifier.STATIC);
            if (member.getKind() == ElementKind.FIELD) {
                fields += isStatic ? 0 : 1;
                Check.due("rule 5: static fields are final: " + member,
                        !isStatic || member.getModifiers().contains(Modifier.FINAL), true);
            }
            if (face) {
                dueInFace(member);
            } else if (member.getKind() == ElementKind.METHOD) {
                Check.due("rule 1: no method inside bears a name of the face: " + member,
                        FACE.contains(member.getSimpleName().toString()), false);
            }
        }
        Check.due(here(tree) + "rule 11: some twenty fields: " + fields, fields <= 20, true);
        return super.visitClass(tree, none);
    }

    private void dueInFace(Element member) {
        boolean isPublic = member.getModifiers().contains(Modifier.PUBLIC);
        boolean isPrivate = member.getModifiers().contains(Modifier.PRIVATE);
        String name = member.getSimpleName().toString();
        if (member.getKind() == ElementKind.METHOD) {
            Check.due("rule 1: public of the face, or private and of another name: " + member,
                    FACE.contains(name) ? isPublic : isPrivate, true);
            if (isPublic) {
                publicMethods.add(name);
            }
        } else if (member.getKind() == ElementKind.FIELD) {
            Check.due("rule 1: fields are private but for NONE: " + member,
                    name.equals("NONE") ? isPublic : isPrivate, true);
        }
    }

    @Override
    public Void visitMethod(MethodTree tree, Void none) {
        ExecutableElement method = (ExecutableElement) elementHere();
        calls.computeIfAbsent(nameOf(method), key -> new LinkedHashSet<>());
        long from = trees.getSourcePositions().getStartPosition(unit, tree);
        long to = trees.getSourcePositions().getEndPosition(unit, tree);
        if (to > 0) {
            long lines = unit.getLineMap().getLineNumber(to) - unit.getLineMap().getLineNumber(from) + 1;
            Check.due(here(tree) + "rule 11: some sixty lines: " + lines, lines <= 60, true);
        }
        Check.due(here(tree) + "rule 11: seven parameters", tree.getParameters().size() <= 7, true);
        return super.visitMethod(tree, none);
    }

    private static String nameOf(ExecutableElement method) {
        return method.getEnclosingElement().getSimpleName() + "." + method.getSimpleName();
    }

    @Override
    public Void visitMethodInvocation(MethodInvocationTree tree, Void none) {
        ExecutableElement called = (ExecutableElement) elementHere();
        String name = nameOf(called);
        boolean own = called.getEnclosingElement().toString().startsWith("MillBoats");
        boolean superCall = called.getKind() == ElementKind.CONSTRUCTOR;
        if (!own && !superCall) {
            Check.due(here(tree) + "rule 4: library: " + name, LIBRARY.contains(name), true);
        }
        Element caller = inside(MethodTree.class);
        if (own && caller != null) {
            calls.computeIfAbsent(nameOf((ExecutableElement) caller), key -> new LinkedHashSet<>()).add(name);
        }
        return super.visitMethodInvocation(tree, none);
    }

    @Override
    public Void visitNewClass(NewClassTree tree, Void none) {
        ExecutableElement made = (ExecutableElement) elementHere();
        String name = made.getEnclosingElement().getSimpleName().toString();
        boolean own = made.getEnclosingElement().toString().startsWith("MillBoats");
        Check.due(here(tree) + "rule 4: new " + name, own || MADE.contains(name), true);
        Element caller = inside(MethodTree.class);
        if (own && caller != null) {
            calls.computeIfAbsent(nameOf((ExecutableElement) caller), key -> new LinkedHashSet<>())
                    .add(name + ".<init>");
        }
        if (tree.getClassBody() != null) {
            refuse(tree, "no anonymous class here");
        }
        return super.visitNewClass(tree, none);
    }

    @Override
    public Void visitThrow(ThrowTree tree, Void none) {
        Element method = inside(MethodTree.class);
        Check.due(here(tree) + "rule 6: throws only in millOf",
                method != null && method.getSimpleName().contentEquals("millOf"), true);
        return super.visitThrow(tree, none);
    }

    @Override
    public Void visitTry(TryTree tree, Void none) {
        refuse(tree, "nothing is caught here");
        return super.visitTry(tree, none);
    }

    @Override
    public Void visitLambdaExpression(LambdaExpressionTree tree, Void none) {
        refuse(tree, "rule 2: no lambda");
        return super.visitLambdaExpression(tree, none);
    }

    @Override
    public Void visitMemberReference(MemberReferenceTree tree, Void none) {
        refuse(tree, "rule 2: no method reference");
        return super.visitMemberReference(tree, none);
    }

    @Override
    public Void visitSynchronized(SynchronizedTree tree, Void none) {
        refuse(tree, "rule 6: no synchronized");
        return super.visitSynchronized(tree, none);
    }

    @Override
    public Void visitAssert(AssertTree tree, Void none) {
        refuse(tree, "rule 6: no assert");
        return super.visitAssert(tree, none);
    }

    @Override
    public Void visitInstanceOf(InstanceOfTree tree, Void none) {
        refuse(tree, "no instanceof here");
        return super.visitInstanceOf(tree, none);
    }

    @Override
    public Void visitTypeCast(TypeCastTree tree, Void none) {
        String to = tree.getType().toString();
        Check.due(here(tree) + "rule 6: casts of numbers alone: " + to, to.equals("int") || to.equals("long"), true);
        return super.visitTypeCast(tree, none);
    }

    @Override
    public Void visitBinary(BinaryTree tree, Void none) {
        String type = String.valueOf(trees.getTypeMirror(getCurrentPath()));
        Check.due(here(tree) + "rule 10: no + of texts", type.equals("java.lang.String"), false);
        return super.visitBinary(tree, none);
    }

    @Override
    public Void visitVariable(VariableTree tree, Void none) {
        String type = String.valueOf(trees.getTypeMirror(getCurrentPath()));
        boolean fine = type.matches("(int|long|boolean|char|byte)(\\[\\]){0,2}|java.lang.String|MillBoats\\.\\w+(\\[\\])?");
        Check.due(here(tree) + "rule 3: type " + type, fine, true);
        return super.visitVariable(tree, none);
    }

    /** The longest way through calls; those that call one another in a ring count once. */
    private String deepest() {
        String longest = "";
        Map<String, String> known = new HashMap<>();
        for (String method : calls.keySet()) {
            String way = deepestFrom(method, known);
            if (way.split(" ").length > longest.split(" ").length) {
                longest = way;
            }
        }
        return longest;
    }

    private String deepestFrom(String method, Map<String, String> known) {
        if (known.containsKey(method)) {
            return known.get(method);
        }
        List<String> ring = new ArrayList<>();
        for (String other : reached(method)) {
            if (reached(other).contains(method)) {
                ring.add(other);
            }
        }
        if (ring.isEmpty()) {
            ring.add(method);
        }
        String longest = "";
        for (String of : ring) {
            for (String next : calls.getOrDefault(of, new LinkedHashSet<>())) {
                String way = ring.contains(next) ? "" : deepestFrom(next, known);
                if (!way.isEmpty() && (longest.isEmpty() || way.split(" ").length > longest.split(" ").length)) {
                    longest = way;
                }
            }
        }
        String found = (method + " " + longest).trim();
        known.put(method, found);
        return found;
    }

    private Set<String> reached(String method) {
        Set<String> reached = new LinkedHashSet<>();
        List<String> open = new ArrayList<>(calls.getOrDefault(method, new LinkedHashSet<>()));
        while (!open.isEmpty()) {
            String next = open.remove(open.size() - 1);
            if (reached.add(next)) {
                open.addAll(calls.getOrDefault(next, new LinkedHashSet<>()));
            }
        }
        return reached;
    }
}
