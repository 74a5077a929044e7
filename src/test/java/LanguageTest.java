import com.sun.source.tree.AssertTree;
import com.sun.source.tree.ClassTree;
import com.sun.source.tree.CompilationUnitTree;
import com.sun.source.tree.LambdaExpressionTree;
import com.sun.source.tree.LineMap;
import com.sun.source.tree.MemberReferenceTree;
import com.sun.source.tree.MethodTree;
import com.sun.source.tree.NewClassTree;
import com.sun.source.tree.SynchronizedTree;
import com.sun.source.tree.ThrowTree;
import com.sun.source.tree.Tree;
import com.sun.source.tree.TryTree;
import com.sun.source.tree.VariableTree;
import com.sun.source.util.JavacTask;
import com.sun.source.util.SourcePositions;
import com.sun.source.util.TreeScanner;
import com.sun.source.util.Trees;
import java.lang.reflect.Member;
import java.lang.reflect.Method;
import java.lang.reflect.Modifier;
import java.nio.file.Files;
import java.nio.file.Path;
import java.util.ArrayList;
import java.util.HashSet;
import java.util.List;
import java.util.Set;
import java.util.TreeSet;
import javax.tools.JavaCompiler;
import javax.tools.StandardJavaFileManager;
import javax.tools.ToolProvider;

/** What of ../shared/LANGUAGE.md can be seen in the source and in the class: its face, its sizes, what is left out. */
final class LanguageTest {
    private static final Due due = new Due();
    private static final Path SOURCE = Path.of("src/main/java/ProofLine.java");
    private static final String[] FACE = {
        "int after(int,int,int)", "boolean again(int)", "int ahead(int,int,int,int,boolean)",
        "long come(int,int,int,boolean)", "int count(int)", "int deed(int,int,int)", "int desks(int,int,int)",
        "int distance(int,int,int)", "int drawn(int,int,int,int)", "int end(int)", "int fact(int,int,int)",
        "int fault(int)", "int feed(int,int,int,int,int)", "int firsts(int,int,int)", "int fits(int,int,int)",
        "boolean image(int)", "int kin(int,int)", "int lastWord(int,int)", "int median(int,int,boolean)",
        "int order(int,int)", "int paper(int,int)", "int peace(int,boolean)",
        "int quarrel(int,int,int,int,boolean)", "int reading(int,int,int)", "int rise(int,int)",
        "int rounds(int,int)", "int signs(int,boolean)", "int state(int,int,int,int)", "int steps(int,int,int)",
        "int stop(int,int)", "int text(int,int)", "int towards(int,int,int)", "int vote(int,int)"};

    public static void main(String[] args) throws Exception {
        face();
        source(Files.readString(SOURCE));
        tree();
        due.finish();
    }

    private static void face() {
        due.at("rule 1");
        Set<String> open = new TreeSet<>();
        Set<String> names = new HashSet<>();
        for (Method m : ProofLine.class.getDeclaredMethods()) {
            if (!Modifier.isPrivate(m.getModifiers())) {
                String all = m.toString();
                open.add(all.replace("public ", "").replace("ProofLine.", ""));
                names.add(m.getName());
            }
        }
        Set<String> wanted = new TreeSet<>(List.of(FACE));
        due.is("the face " + open + " is " + wanted, open.equals(wanted), true);
        for (Method m : ProofLine.class.getDeclaredMethods()) {
            if (Modifier.isPrivate(m.getModifiers())) {
                due.is("a private method of a public name: " + m.getName(), names.contains(m.getName()), false);
            }
        }
        for (Member f : ProofLine.class.getDeclaredFields()) {
            boolean open2 = !Modifier.isPrivate(f.getModifiers());
            due.is("field " + f.getName(), open2, f.getName().equals("NONE"));
        }
        due.is("final", Modifier.isFinal(ProofLine.class.getModifiers()), true);
        due.is("constructors", ProofLine.class.getDeclaredConstructors().length, 1);
        for (Class<?> c : ProofLine.class.getDeclaredClasses()) {
            for (Method m : c.getDeclaredMethods()) {
                boolean hidden = Modifier.isPrivate(m.getModifiers());
                due.is("a private method of a public name: " + m, hidden && names.contains(m.getName()), false);
            }
            due.is("static " + c, Modifier.isStatic(c.getModifiers()), true);
            due.is("not public " + c, Modifier.isPublic(c.getModifiers()), false);
        }
        due.is("classes", ProofLine.class.getDeclaredClasses().length <= 12, true);
    }

    private static void source(String text) {
        due.at("rule 3, 4");
        due.is("package line", text.contains("package "), false);
        for (String no : new String[] {"import ", "Exact(", ".values()", "hashCode", "toString", ".class",
            "System.out", "System.nano", "System.current", "Random", "Thread", "Float", "Double", "native ",
            "_VALUE"}) {
            due.is("«" + no + "»", text.contains(no), false);
        }
        due.is("signs 1 to 127", text.chars().allMatch(c -> c >= 10 && c < 127), true);
    }

    private static void tree() throws Exception {
        JavaCompiler compiler = ToolProvider.getSystemJavaCompiler();
        try (StandardJavaFileManager files = compiler.getStandardFileManager(null, null, null)) {
            JavacTask task = (JavacTask) compiler.getTask(null, files, null, null, null,
                files.getJavaFileObjects(SOURCE));
            SourcePositions positions = Trees.instance(task).getSourcePositions();
            for (CompilationUnitTree unit : task.parse()) {
                new Rules(unit, positions).scan(unit, null);
            }
        }
    }

    private static final class Rules extends TreeScanner<Void, Void> {
        private final CompilationUnitTree unit;
        private final SourcePositions positions;
        private final LineMap lines;

        Rules(CompilationUnitTree unit, SourcePositions positions) {
            this.unit = unit;
            this.positions = positions;
            this.lines = unit.getLineMap();
        }

        private long line(Tree t) {
            return lines.getLineNumber(positions.getStartPosition(unit, t));
        }

        private void never(Tree t, String what) {
            due.at("line " + line(t));
            due.is(what, true, false);
        }

        @Override public Void visitMethod(MethodTree m, Void v) {
            long length = lines.getLineNumber(positions.getEndPosition(unit, m)) - line(m) + 1;
            due.at("rule 11, " + m.getName());
            due.is("lines", length <= 60, true);
            due.is("parameters", m.getParameters().size() <= 7, true);
            return super.visitMethod(m, v);
        }

        @Override public Void visitClass(ClassTree c, Void v) {
            List<String> fields = new ArrayList<>();
            for (Tree t : c.getMembers()) {
                if (t instanceof VariableTree) {
                    var flags = ((VariableTree) t).getModifiers().getFlags();
                    boolean fixed = flags.contains(javax.lang.model.element.Modifier.STATIC);
                    due.at("rule 5, " + ((VariableTree) t).getName());
                    due.is("static and not final",
                        fixed && !flags.contains(javax.lang.model.element.Modifier.FINAL), false);
                    if (!fixed) {
                        fields.add(((VariableTree) t).getName().toString());
                    }
                }
                due.is("initialiser block", t.getKind() == Tree.Kind.BLOCK, false);
            }
            due.at("rule 11, " + c.getSimpleName());
            due.is("fields " + fields, fields.size() <= 20, true);
            return super.visitClass(c, v);
        }

        @Override public Void visitThrow(ThrowTree t, Void v) {
            never(t, "throw");
            return super.visitThrow(t, v);
        }

        @Override public Void visitTry(TryTree t, Void v) {
            never(t, "try");
            return super.visitTry(t, v);
        }

        @Override public Void visitAssert(AssertTree t, Void v) {
            never(t, "assert");
            return super.visitAssert(t, v);
        }

        @Override public Void visitSynchronized(SynchronizedTree t, Void v) {
            never(t, "synchronized");
            return super.visitSynchronized(t, v);
        }

        @Override public Void visitLambdaExpression(LambdaExpressionTree t, Void v) {
            never(t, "lambda");
            return super.visitLambdaExpression(t, v);
        }

        @Override public Void visitMemberReference(MemberReferenceTree t, Void v) {
            never(t, "method reference");
            return super.visitMemberReference(t, v);
        }

        @Override public Void visitNewClass(NewClassTree t, Void v) {
            if (t.getClassBody() != null) {
                never(t, "anonymous class");
            }
            return super.visitNewClass(t, v);
        }
    }
}
