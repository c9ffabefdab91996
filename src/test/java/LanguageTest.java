import com.sun.source.tree.BinaryTree;
import com.sun.source.tree.ClassTree;
import com.sun.source.tree.CompilationUnitTree;
import com.sun.source.tree.IdentifierTree;
import com.sun.source.tree.ImportTree;
import com.sun.source.tree.LiteralTree;
import com.sun.source.tree.MemberSelectTree;
import com.sun.source.tree.MethodInvocationTree;
import com.sun.source.tree.MethodTree;
import com.sun.source.tree.NewArrayTree;
import com.sun.source.tree.NewClassTree;
import com.sun.source.tree.Tree;
import com.sun.source.tree.VariableTree;
import com.sun.source.util.JavacTask;
import com.sun.source.util.TreeScanner;
import com.sun.source.util.Trees;
import com.sun.source.util.TreePath;
import java.io.File;
import java.util.ArrayList;
import java.util.Arrays;
import java.util.EnumSet;
import java.util.HashSet;
import java.util.List;
import java.util.Map;
import java.util.Set;
import java.util.TreeMap;
import java.util.TreeSet;
import javax.lang.model.element.Element;
import javax.lang.model.element.Modifier;
import javax.tools.JavaCompiler;
import javax.tools.StandardJavaFileManager;
import javax.tools.ToolProvider;

/** The rules of LANGUAGE.md that can be read off the source, for the one file that they bind. */
public final class LanguageTest {
    private static final String FILE = "src/main/java/ElectingWind.java";
    private static final Set<String> FACE = new TreeSet<>(Arrays.asList("NONE", "BAD", "NOT", "FULL", "<init>()",
        "type(int,int)int", "wipe(int)int", "undo(int)int", "fault(int)int", "cell(int)int", "gust(int,int)int",
        "candidate(int,int)int", "wind(int,int)int", "ribs(int,int)int", "overturns(int,int)int", "in(int)int",
        "first(int)int", "lulls()int", "stand(int,int)int", "shield(int)int", "move(int)int", "bribe(int)int",
        "seen(int,int)int", "forget()int", "read(int)int", "blew(int,int)int", "had(int)int", "ask(int)int",
        "calm(int,int,int)long", "weather(int,int,int)int", "sheet(int,int,int)int", "lose(int)int",
        "put(int,int,int,int)int", "get(int,int,int)int", "copy(int,int,int,int,int)int", "write(int,int)int",
        "count(int)int", "digest()long"));
    private static final Set<String> LIBRARY = new HashSet<>(Arrays.asList("java.lang.Math.max", "java.lang.Math.min",
        "java.lang.Integer.bitCount", "java.lang.System.arraycopy", "java.util.Arrays.fill"));
    private static final EnumSet<Tree.Kind> BARRED = EnumSet.of(Tree.Kind.THROW, Tree.Kind.TRY, Tree.Kind.CATCH,
        Tree.Kind.SYNCHRONIZED, Tree.Kind.ASSERT, Tree.Kind.LAMBDA_EXPRESSION, Tree.Kind.MEMBER_REFERENCE,
        Tree.Kind.INSTANCE_OF, Tree.Kind.ENHANCED_FOR_LOOP, Tree.Kind.STRING_LITERAL, Tree.Kind.SWITCH_EXPRESSION);

    private static final List<String> faults = new ArrayList<>();
    private static final Map<String, Set<String>> calls = new TreeMap<>();

    /** Walks through the file with every node's owner at hand. */
    private static final class Walk extends TreeScanner<Void, Void> {
        private final Trees trees;
        private final CompilationUnitTree unit;
        private final Set<String> face = new TreeSet<>();
        private final Set<String> faceNames = new HashSet<>();
        private String method = "";
        private int classes = 0;
        private int depth = 0;

        Walk(Trees trees, CompilationUnitTree unit) {
            this.trees = trees;
            this.unit = unit;
            for (String f : FACE) faceNames.add(f.replaceAll("\\(.*", ""));
        }

        private long line(long place) { return unit.getLineMap().getLineNumber(place); }

        private void fault(Tree at, String what) {
            faults.add("line " + line(trees.getSourcePositions().getStartPosition(unit, at)) + ": " + what);
        }

        private Element element(Tree t) { return trees.getElement(TreePath.getPath(unit, t)); }

        @Override public Void scan(Tree t, Void v) {
            if (t != null && BARRED.contains(t.getKind())) fault(t, "rules 2, 6, 12: " + t.getKind());
            return super.scan(t, v);
        }

        @Override public Void visitImport(ImportTree t, Void v) {
            if (!t.getQualifiedIdentifier().toString().equals("java.util.Arrays")) fault(t, "rule 4: import");
            return null;
        }

        @Override public Void visitClass(ClassTree t, Void v) {
            Set<Modifier> flags = t.getModifiers().getFlags();
            classes++;
            if (depth == 0 && !flags.containsAll(EnumSet.of(Modifier.PUBLIC, Modifier.FINAL))) fault(t, "rule 1: class");
            if (depth > 0 && (!flags.contains(Modifier.STATIC) || flags.contains(Modifier.PUBLIC))) fault(t, "rule 2: class");
            if (depth > 1) fault(t, "rule 2: a class in a class inside");
            int fields = 0;
            for (Tree m : t.getMembers()) {
                if (m instanceof VariableTree) fields += field((VariableTree) m, depth == 0);
                if (m.getKind() == Tree.Kind.BLOCK) fault(m, "rule 5: initialiser block");
            }
            if (fields > 20) fault(t, "rule 11: " + fields + " fields");
            depth++;
            super.visitClass(t, v);
            depth--;
            return null;
        }

        private int field(VariableTree f, boolean outer) {
            Set<Modifier> flags = f.getModifiers().getFlags();
            if (outer && flags.contains(Modifier.PUBLIC)) face.add(f.getName().toString());
            else if (outer && !flags.contains(Modifier.PRIVATE)) fault(f, "rule 1: field " + f.getName());
            if (!flags.contains(Modifier.STATIC)) return 1;
            if (!flags.contains(Modifier.FINAL)) fault(f, "rule 5: " + f.getName());
            if (f.getInitializer() == null || f.getInitializer() instanceof NewClassTree) fault(f, "rule 5: " + f.getName());
            return 0;
        }

        @Override public Void visitMethod(MethodTree t, Void v) {
            long first = line(trees.getSourcePositions().getStartPosition(unit, t));
            long end = trees.getSourcePositions().getEndPosition(unit, t);
            // A constructor that the compiler makes itself has no end in the file.
            if (end < 0) return null;
            StringBuilder sign = new StringBuilder(t.getName()).append('(');
            for (VariableTree p : t.getParameters()) sign.append(sign.charAt(sign.length() - 1) == '(' ? "" : ",").append(p.getType());
            sign.append(')').append(t.getReturnType() == null ? "" : t.getReturnType().toString());
            if (t.getParameters().size() > 7) fault(t, "rule 11: parameters");
            if (line(end) - first > 60) fault(t, "rule 11: " + sign + " is too long");
            boolean open = t.getModifiers().getFlags().contains(Modifier.PUBLIC);
            boolean shut = t.getModifiers().getFlags().contains(Modifier.PRIVATE);
            if (depth == 1 && open) face.add(sign.toString());
            if (depth == 1 && !open && !shut) fault(t, "rule 1: method " + sign);
            if (!open && t.getReturnType() != null && faceNames.contains(t.getName().toString())) fault(t, "rule 1: bears a public name: " + sign);
            if (depth > 1 && open) fault(t, "rule 1: public in a class inside: " + sign);
            method = key(element(t));
            calls.put(method, new TreeSet<>());
            super.visitMethod(t, v);
            method = "";
            return null;
        }

        @Override public Void visitMethodInvocation(MethodInvocationTree t, Void v) {
            Element e = element(t.getMethodSelect());
            String whole = e.getEnclosingElement() + "." + e.getSimpleName();
            if (whole.startsWith("java.")) {
                if (!LIBRARY.contains(whole) && !whole.equals("java.lang.Object.<init>")) fault(t, "rule 4: " + whole);
            } else if (calls.containsKey(method)) {
                calls.get(method).add(key(e));
            }
            return super.visitMethodInvocation(t, v);
        }

        private static String key(Element e) { return e.getEnclosingElement() + "." + e; }

        @Override public Void visitNewClass(NewClassTree t, Void v) {
            if (t.getClassBody() != null) fault(t, "rule 2: anonymous class");
            if (!method.isEmpty() && !method.contains("ElectingWind.ElectingWind()")) fault(t, "made in a call: rows are made in constructors");
            return super.visitNewClass(t, v);
        }

        @Override public Void visitNewArray(NewArrayTree t, Void v) {
            if (!method.isEmpty()) fault(t, "made in a call: rows are made in constructors");
            return super.visitNewArray(t, v);
        }

        @Override public Void visitBinary(BinaryTree t, Void v) {
            if (t.getKind() == Tree.Kind.DIVIDE || t.getKind() == Tree.Kind.REMAINDER) divisor(t);
            return super.visitBinary(t, v);
        }

        /** A divisor is a figure, a constant, or columns, which is tested there. */
        private void divisor(BinaryTree t) {
            Tree by = t.getRightOperand();
            boolean figure = by instanceof LiteralTree && !by.toString().equals("0");
            boolean constant = by instanceof IdentifierTree && by.toString().equals(by.toString().toUpperCase());
            if (!figure && !constant && !by.toString().equals("columns")) fault(t, "rule 7: divisor " + by);
        }

        @Override public Void visitMemberSelect(MemberSelectTree t, Void v) {
            if (t.getExpression().toString().equals("System") && !t.getIdentifier().contentEquals("arraycopy")) fault(t, "rule 4");
            return super.visitMemberSelect(t, v);
        }
    }

    private static int deepest(String method, Set<String> above) {
        if (above.contains(method)) {
            faults.add("rule 8: " + method + " calls itself");
            return 0;
        }
        above.add(method);
        int most = 0;
        for (String next : calls.getOrDefault(method, Set.of())) most = Math.max(most, deepest(next, above));
        above.remove(method);
        return most + 1;
    }

    public static void main(String[] args) throws Exception {
        JavaCompiler javac = ToolProvider.getSystemJavaCompiler();
        StandardJavaFileManager files = javac.getStandardFileManager(null, null, null);
        JavacTask task = (JavacTask) javac.getTask(null, files, null, null, null, files.getJavaFileObjects(new File(FILE)));
        CompilationUnitTree unit = task.parse().iterator().next();
        task.analyze();
        if (unit.getPackageName() != null) faults.add("a package line");
        if (unit.getTypeDecls().size() != 1) faults.add("rule 1: more than one class outside");
        Walk walk = new Walk(Trees.instance(task), unit);
        walk.scan(unit, null);
        if (!walk.face.equals(FACE)) faults.add("rule 1: the face is " + walk.face);
        if (walk.classes > 12) faults.add("rule 11: " + walk.classes + " classes");
        int most = 0;
        for (String method : calls.keySet()) most = Math.max(most, deepest(method, new HashSet<>()));
        if (most > 8) faults.add("rule 11: calls go " + most + " deep");
        String text = unit.getSourceFile().getCharContent(true).toString();
        for (int i = 0; i < text.length(); i++) if (text.charAt(i) > 126) faults.add("rule 4: the sign at " + i);
        for (String f : faults) System.out.println("LanguageTest: " + f);
        System.out.println("LanguageTest: " + calls.size() + " methods, calls " + most + " deep, " + faults.size() + " faults");
        if (!faults.isEmpty()) System.exit(1);
    }
}
