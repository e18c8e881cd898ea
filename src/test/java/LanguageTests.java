import com.sun.source.tree.AssertTree;
import com.sun.source.tree.BinaryTree;
import com.sun.source.tree.ClassTree;
import com.sun.source.tree.CompilationUnitTree;
import com.sun.source.tree.DoWhileLoopTree;
import com.sun.source.tree.ForLoopTree;
import com.sun.source.tree.IdentifierTree;
import com.sun.source.tree.ImportTree;
import com.sun.source.tree.InstanceOfTree;
import com.sun.source.tree.LambdaExpressionTree;
import com.sun.source.tree.MemberReferenceTree;
import com.sun.source.tree.MemberSelectTree;
import com.sun.source.tree.MethodInvocationTree;
import com.sun.source.tree.MethodTree;
import com.sun.source.tree.NewArrayTree;
import com.sun.source.tree.NewClassTree;
import com.sun.source.tree.ParenthesizedTree;
import com.sun.source.tree.SynchronizedTree;
import com.sun.source.tree.ThrowTree;
import com.sun.source.tree.Tree;
import com.sun.source.tree.TryTree;
import com.sun.source.tree.VariableTree;
import com.sun.source.tree.WhileLoopTree;
import com.sun.source.util.JavacTask;
import com.sun.source.util.SourcePositions;
import com.sun.source.util.TreePathScanner;
import com.sun.source.util.Trees;
import java.io.IOException;
import java.nio.file.Path;
import java.util.HashMap;
import java.util.HashSet;
import java.util.List;
import java.util.Map;
import java.util.Set;
import java.util.TreeSet;
import javax.lang.model.element.Element;
import javax.lang.model.element.ElementKind;
import javax.lang.model.element.Modifier;
import javax.tools.JavaCompiler;
import javax.tools.StandardJavaFileManager;
import javax.tools.ToolProvider;

/** The class keeps to what of LANGUAGE.md can be read off its text; some limits are drawn closer than there. */
public final class LanguageTests {
    private static final Set<String> TYPES = Set.of("int", "long", "boolean", "byte", "int[]", "long[]", "byte[]", "int[][]");
    private static final Set<String> LIBRARY = Set.of("Arrays.fill", "System.arraycopy", "Math.max", "Math.min",
            "Integer.bitCount", "Integer.numberOfTrailingZeros");
    private static final Set<String> RECURSIONS = Set.of("Reader.waysToRead", "Seeker.areEnough", "Looter.takeFrom");
    private static int wrong;

    private static void holds(boolean right, int rule, String words) {
        if (!right) {
            wrong++;
            System.out.println("rule " + rule + ": " + words);
        }
    }

    public static void main(String[] args) throws IOException {
        JavaCompiler compiler = ToolProvider.getSystemJavaCompiler();
        StandardJavaFileManager files = compiler.getStandardFileManager(null, null, null);
        JavacTask task = (JavacTask) compiler.getTask(null, files, null, List.of("-proc:none"), null,
                files.getJavaFileObjects(Path.of("src/main/java/LoveLocks.java")));
        CompilationUnitTree unit = task.parse().iterator().next();
        task.analyze();
        Rules rules = new Rules(unit, Trees.instance(task));
        rules.scan(unit, null);
        rules.atTheEnd();
        System.out.println(wrong == 0 ? rules.calls.size() + " methods keep to the language" : wrong + " faults of language");
        if (wrong != 0) {
            System.exit(1);
        }
    }

    private static final class Rules extends TreePathScanner<Void, Void> {
        final Map<String, Set<String>> calls = new HashMap<>();
        final Set<String> statics = new HashSet<>();
        private final Set<String> classes = new HashSet<>();
        private final CompilationUnitTree unit;
        private final Trees trees;
        private String method;

        Rules(CompilationUnitTree unit, Trees trees) {
            this.unit = unit;
            this.trees = trees;
        }

        private String lineOf(Tree t) {
            return "line " + unit.getLineMap().getLineNumber(trees.getSourcePositions().getStartPosition(unit, t)) + " ";
        }

        private void notThere(int rule, Tree t, String what) {
            holds(false, rule, lineOf(t) + what);
        }

        @Override
        public Void visitImport(ImportTree t, Void v) {
            holds(t.getQualifiedIdentifier().toString().equals("java.util.Arrays"), 4, lineOf(t) + t);
            return null;
        }

        @Override
        public Void visitClass(ClassTree t, Void v) {
            holds(method == null, 2, lineOf(t) + "a class within a method");
            classes.add(t.getSimpleName().toString());
            Set<Modifier> is = t.getModifiers().getFlags();
            boolean whole = t.getSimpleName().contentEquals("LoveLocks");
            holds(whole || is.contains(Modifier.STATIC) && is.contains(Modifier.PRIVATE), 1, t.getSimpleName() + " is private, static");
            int fields = 0;
            for (Tree m : t.getMembers()) {
                boolean isField = m instanceof VariableTree f && !f.getModifiers().getFlags().contains(Modifier.STATIC);
                fields += isField ? 1 : 0;
                holds(m.getKind() != Tree.Kind.BLOCK, 5, lineOf(m) + "a block ahead of all calls");
            }
            holds(fields <= 20, 11, t.getSimpleName() + " has " + fields + " fields");
            return super.visitClass(t, v);
        }

        @Override
        public Void visitVariable(VariableTree t, Void v) {
            String type = t.getType().toString();
            holds(TYPES.contains(type) || isOwnClass(type), 3, lineOf(t) + "is of " + type);
            if (t.getModifiers().getFlags().contains(Modifier.STATIC)) {
                holds(t.getModifiers().getFlags().contains(Modifier.FINAL), 5, lineOf(t) + "is static, not final");
                holds(type.equals("int"), 5, lineOf(t) + "is static, of " + type);
            }
            return super.visitVariable(t, v);
        }

        private boolean isOwnClass(String type) {
            return Set.of("State", "Rail", "Sights", "Names", "Reader", "Nights", "Growth", "Seeker", "Looter", "Tape", "Sheets")
                    .contains(type);
        }

        @Override
        public Void visitMethod(MethodTree t, Void v) {
            Element e = trees.getElement(getCurrentPath());
            method = nameOf(e);
            holds(!calls.containsKey(method), 1, "two methods are called " + method);
            calls.putIfAbsent(method, new TreeSet<>());
            if (e.getModifiers().contains(Modifier.STATIC)) {
                statics.add(method);
            }
            SourcePositions at = trees.getSourcePositions();
            if (at.getStartPosition(unit, t) >= 0 && t.getBody() != null) {
                long lines = unit.getLineMap().getLineNumber(at.getEndPosition(unit, t.getBody()))
                        - unit.getLineMap().getLineNumber(at.getStartPosition(unit, t)) + 1;
                holds(lines <= 40, 11, method + " has " + lines + " lines");
            }
            holds(t.getParameters().size() <= 7, 11, method + " takes too many");
            holds(t.getThrows().isEmpty(), 6, method + " throws");
            super.visitMethod(t, v);
            method = null;
            return null;
        }

        private static String nameOf(Element e) {
            return e.getEnclosingElement().getSimpleName() + "." + e.getSimpleName();
        }

        @Override
        public Void visitMethodInvocation(MethodInvocationTree t, Void v) {
            Element e = trees.getElement(getCurrentPath());
            String name = nameOf(e);
            boolean isSuper = e.getKind() == ElementKind.CONSTRUCTOR;
            if (!isSuper && !e.getEnclosingElement().toString().startsWith("LoveLocks")) {
                holds(LIBRARY.contains(name), 4, lineOf(t) + name);
            } else if (!isSuper && method != null) {
                calls.get(method).add(name);
            }
            return super.visitMethodInvocation(t, v);
        }

        @Override
        public Void visitNewClass(NewClassTree t, Void v) {
            holds(method == null, 12, lineOf(t) + "a call makes an object");
            return super.visitNewClass(t, v);
        }

        @Override
        public Void visitNewArray(NewArrayTree t, Void v) {
            holds(method == null, 12, lineOf(t) + "a call makes a row");
            return super.visitNewArray(t, v);
        }

        /** A divisor is a number that is written out, or one that was looked at: a least and a most above 0, 100 and a. */
        @Override
        public Void visitBinary(BinaryTree t, Void v) {
            if (t.getKind() == Tree.Kind.DIVIDE || t.getKind() == Tree.Kind.REMAINDER) {
                Tree by = t.getRightOperand();
                boolean isSafe = by.toString().matches("[1-9][0-9]*|least|most|\\(100 \\+ a\\)");
                holds(isSafe, 7, lineOf(t) + "divides by " + by);
            }
            return super.visitBinary(t, v);
        }

        @Override
        public Void visitForLoop(ForLoopTree t, Void v) {
            Tree end = t.getCondition();
            while (end instanceof ParenthesizedTree p) {
                end = p.getExpression();
            }
            holds(end instanceof BinaryTree && t.getUpdate().size() == 1, 9, lineOf(t) + "a loop without an end");
            return super.visitForLoop(t, v);
        }

        @Override
        public Void visitWhileLoop(WhileLoopTree t, Void v) {
            notThere(9, t, "while");
            return super.visitWhileLoop(t, v);
        }

        @Override
        public Void visitDoWhileLoop(DoWhileLoopTree t, Void v) {
            notThere(9, t, "do");
            return super.visitDoWhileLoop(t, v);
        }

        @Override
        public Void visitThrow(ThrowTree t, Void v) {
            notThere(6, t, "throw: no call of the document throws");
            return super.visitThrow(t, v);
        }

        @Override
        public Void visitTry(TryTree t, Void v) {
            notThere(6, t, "try: nothing is thrown that could be caught");
            return super.visitTry(t, v);
        }

        @Override
        public Void visitSynchronized(SynchronizedTree t, Void v) {
            notThere(6, t, "synchronized");
            return super.visitSynchronized(t, v);
        }

        @Override
        public Void visitAssert(AssertTree t, Void v) {
            notThere(6, t, "assert");
            return super.visitAssert(t, v);
        }

        @Override
        public Void visitInstanceOf(InstanceOfTree t, Void v) {
            notThere(6, t, "instanceof");
            return super.visitInstanceOf(t, v);
        }

        @Override
        public Void visitLambdaExpression(LambdaExpressionTree t, Void v) {
            notThere(2, t, "a lambda");
            return super.visitLambdaExpression(t, v);
        }

        @Override
        public Void visitMemberReference(MemberReferenceTree t, Void v) {
            notThere(2, t, "a method reference");
            return super.visitMemberReference(t, v);
        }

        @Override
        public Void visitMemberSelect(MemberSelectTree t, Void v) {
            holds(!t.getIdentifier().contentEquals("class"), 13, lineOf(t) + t);
            return super.visitMemberSelect(t, v);
        }

        @Override
        public Void visitIdentifier(IdentifierTree t, Void v) {
            holds(!Set.of("Thread", "Runtime", "Object").contains(t.getName().toString()), 13, lineOf(t) + t);
            return super.visitIdentifier(t, v);
        }

        void atTheEnd() {
            holds(classes.size() <= 12, 11, "there are " + classes.size() + " classes");
            for (String m : calls.keySet()) {
                boolean again = reaches(m, m, new HashSet<>());
                holds(again == RECURSIONS.contains(m), 8, m + (again ? " comes to itself" : " does not come to itself"));
                holds(!again || statics.contains(m) && calls.get(m).contains(m), 8, m + " is static, and calls itself");
                holds(depth(m) <= 8, 11, m + " goes " + depth(m) + " deep");
            }
        }

        private boolean reaches(String from, String to, Set<String> seen) {
            for (String next : calls.get(from)) {
                if (next.equals(to) || seen.add(next) && reaches(next, to, seen)) {
                    return true;
                }
            }
            return false;
        }

        private int depth(String m) {
            int deepest = 0;
            for (String next : calls.get(m)) {
                if (!next.equals(m)) {
                    deepest = Math.max(deepest, depth(next));
                }
            }
            return deepest + 1;
        }
    }
}
