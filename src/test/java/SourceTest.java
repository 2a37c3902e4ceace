import com.sun.source.tree.BinaryTree;
import com.sun.source.tree.ClassTree;
import com.sun.source.tree.CompilationUnitTree;
import com.sun.source.tree.CompoundAssignmentTree;
import com.sun.source.tree.ExpressionTree;
import com.sun.source.tree.LambdaExpressionTree;
import com.sun.source.tree.LiteralTree;
import com.sun.source.tree.MemberReferenceTree;
import com.sun.source.tree.MethodInvocationTree;
import com.sun.source.tree.MethodTree;
import com.sun.source.tree.NewClassTree;
import com.sun.source.tree.SwitchExpressionTree;
import com.sun.source.tree.ThrowTree;
import com.sun.source.tree.Tree;
import com.sun.source.tree.TryTree;
import com.sun.source.tree.TypeCastTree;
import com.sun.source.tree.VariableTree;
import com.sun.source.util.JavacTask;
import com.sun.source.util.TreePath;
import com.sun.source.util.TreePathScanner;
import com.sun.source.util.Trees;
import java.io.File;
import java.io.IOException;
import java.util.HashMap;
import java.util.LinkedHashSet;
import java.util.List;
import java.util.Map;
import java.util.Set;
import javax.lang.model.element.Element;
import javax.lang.model.element.ElementKind;
import javax.lang.model.element.ExecutableElement;
import javax.lang.model.element.Modifier;
import javax.lang.model.type.TypeKind;
import javax.lang.model.type.TypeMirror;
import javax.tools.JavaCompiler;
import javax.tools.StandardJavaFileManager;
import javax.tools.ToolProvider;

/**
 * The program as the compiler reads it, held against ../shared/LANGUAGE.md: which types it has, what it calls of the
 * library, what it throws, that no method comes back to itself, and how deep calls go.
 */
public final class SourceTest {
    private static final Set<String> LIBRARY = Set.of(
        "java.lang.StringBuilder()", "java.lang.StringBuilder.append(java.lang.String)",
        "java.lang.StringBuilder.append(int)", "java.lang.StringBuilder.append(char)",
        "java.lang.StringBuilder.toString()",
        "java.util.ArrayList()", "java.util.ArrayList.add(E)", "java.util.ArrayList.add(int,E)",
        "java.util.ArrayList.get(int)", "java.util.ArrayList.set(int,E)", "java.util.ArrayList.remove(int)",
        "java.util.ArrayList.size()", "java.util.ArrayList.isEmpty()", "java.util.ArrayList.clear()",
        "java.lang.Math.max(int,int)", "java.lang.Math.min(int,int)",
        "java.lang.IllegalStateException(java.lang.String)", "java.lang.IllegalArgumentException(java.lang.String)",
        "java.lang.IndexOutOfBoundsException(java.lang.String)", "java.lang.Object()", "java.lang.Enum(java.lang.String,int)");
    private static final Set<String> THROWN = Set.of("java.lang.IllegalStateException",
        "java.lang.IllegalArgumentException", "java.lang.IndexOutOfBoundsException");
    private static final int DEEPEST = 8;

    private static Trees trees;
    private static final Map<Element, Set<Element>> CALLS = new HashMap<>();

    public static void main(String[] args) throws IOException {
        JavaCompiler compiler = ToolProvider.getSystemJavaCompiler();
        try (StandardJavaFileManager files = compiler.getStandardFileManager(null, null, null)) {
            JavacTask task = (JavacTask) compiler.getTask(null, files, null,
                    List.of("--release", "17", "-proc:none"), null,
                    files.getJavaFileObjects(new File("src/main/java/Fieldwire.java")));
            trees = Trees.instance(task);
            Iterable<? extends CompilationUnitTree> units = task.parse();
            task.analyze();
            for (CompilationUnitTree unit : units) {
                Due.is("no package line", unit.getPackageName() == null, true);
                Due.is("one class outside", unit.getTypeDecls().size(), 1);
                new Looker().scan(unit, null);
            }
        }
        depths();
        Due.end("SourceTest");
    }

    private static void depths() {
        Due.is("methods were found", CALLS.size() > 100, true);
        for (Element method : CALLS.keySet()) {
            Due.is("calls deep from " + method, depth(method, new LinkedHashSet<>()) <= DEEPEST, true);
        }
    }

    /** How many calls stand open at most, this one counted. */
    private static int depth(Element method, Set<Element> open) {
        Due.is(method + " comes back to itself by " + open, open.contains(method), false);
        if (open.contains(method)) {
            return DEEPEST + 1;
        }
        open.add(method);
        int deepest = 0;
        for (Element called : CALLS.getOrDefault(method, Set.of())) {
            deepest = Math.max(deepest, depth(called, open));
        }
        open.remove(method);
        return deepest + 1;
    }

    private static final class Looker extends TreePathScanner<Void, Void> {
        private Element method;

        @Override
        public Void visitMethod(MethodTree node, Void none) {
            Element before = method;
            method = trees.getElement(getCurrentPath());
            CALLS.computeIfAbsent(method, m -> new LinkedHashSet<>());
            super.visitMethod(node, none);
            method = before;
            return null;
        }

        @Override
        public Void visitClass(ClassTree node, Void none) {
            Due.is(node.getSimpleName() + " has a name", node.getSimpleName().length() > 0, true);
            return super.visitClass(node, none);
        }

        @Override
        public Void visitVariable(VariableTree node, Void none) {
            Element element = trees.getElement(getCurrentPath());
            Due.is("type of " + node, isGoodType(element.asType()), true);
            if (element.getModifiers().contains(Modifier.STATIC) && element.getKind() == ElementKind.FIELD) {
                TypeKind kind = element.asType().getKind();
                Due.is("constant " + node, kind == TypeKind.INT || kind == TypeKind.LONG, true);
            }
            return super.visitVariable(node, none);
        }

        private boolean isGoodType(TypeMirror type) {
            switch (type.getKind()) {
                case INT: case LONG: case DOUBLE: case BOOLEAN: return true;
                default: break;
            }
            String name = type.toString();
            return name.matches("(int|boolean)\\[\\]|int\\[\\]\\[\\]|Fieldwire(\\.[A-Za-z]+)?(\\[\\])?"
                    + "|java\\.lang\\.String(Builder)?|java\\.util\\.ArrayList<Fieldwire\\.[A-Za-z]+>");
        }

        @Override
        public Void visitMethodInvocation(MethodInvocationTree node, Void none) {
            called(trees.getElement(getCurrentPath()), node);
            return super.visitMethodInvocation(node, none);
        }

        @Override
        public Void visitNewClass(NewClassTree node, Void none) {
            Due.is("no anonymous class: " + node, node.getClassBody() == null, true);
            called(trees.getElement(getCurrentPath()), node);
            return super.visitNewClass(node, none);
        }

        private void called(Element element, Tree node) {
            ExecutableElement executable = (ExecutableElement) element;
            String owner = executable.getEnclosingElement().toString();
            if (owner.startsWith("Fieldwire")) {
                if (method != null) {
                    CALLS.get(method).add(executable);
                }
                return;
            }
            boolean isMaking = executable.getKind() == ElementKind.CONSTRUCTOR;
            String name = isMaking ? owner + executable.toString().substring(executable.toString().indexOf('('))
                    : owner + "." + executable;
            Due.is(name + " may be called: " + node, LIBRARY.contains(name), true);
        }

        @Override
        public Void visitThrow(ThrowTree node, Void none) {
            Due.is(node + " is no constructor's", method.getKind(), ElementKind.METHOD);
            boolean isNew = node.getExpression() instanceof NewClassTree;
            Due.is(node + " throws a new one", isNew, true);
            if (isNew) {
                NewClassTree made = (NewClassTree) node.getExpression();
                Due.is(node + " is of the document",
                        THROWN.contains(typeOf(made).toString()), true);
                for (ExpressionTree argument : made.getArguments()) {
                    Due.is(node + " has a written text", argument instanceof LiteralTree, true);
                }
            }
            return super.visitThrow(node, none);
        }

        private TypeMirror typeOf(Tree node) {
            return trees.getTypeMirror(new TreePath(getCurrentPath(), node));
        }

        @Override
        public Void visitBinary(BinaryTree node, Void none) {
            if (node.getKind() == Tree.Kind.PLUS) {
                Due.is("no texts are joined by +: " + node, typeOf(node).getKind().isPrimitive(), true);
            }
            if (node.getKind() == Tree.Kind.EQUAL_TO || node.getKind() == Tree.Kind.NOT_EQUAL_TO) {
                String types = typeOf(node.getLeftOperand()) + " " + typeOf(node.getRightOperand());
                Due.is("no texts are compared so: " + node, types.contains("java.lang"), false);
            }
            boolean isDivided = node.getKind() == Tree.Kind.DIVIDE || node.getKind() == Tree.Kind.REMAINDER;
            if (isDivided && typeOf(node).getKind() == TypeKind.INT) {
                // a written number or a constant, which are not 0 here
                Due.is("divided by a constant: " + node, node.getRightOperand().toString().matches("[1-9][0-9]*|SIDE"),
                        true);
            }
            return super.visitBinary(node, none);
        }

        @Override
        public Void visitCompoundAssignment(CompoundAssignmentTree node, Void none) {
            Due.is("no texts are joined so: " + node, typeOf(node.getVariable()).getKind().isPrimitive(), true);
            return super.visitCompoundAssignment(node, none);
        }

        @Override
        public Void visitTypeCast(TypeCastTree node, Void none) {
            Due.is("numbers alone are cast: " + node, typeOf(node.getType()).getKind().isPrimitive(), true);
            return super.visitTypeCast(node, none);
        }

        @Override
        public Void visitLambdaExpression(LambdaExpressionTree node, Void none) {
            Due.is("no lambda: " + node, true, false);
            return null;
        }

        @Override
        public Void visitMemberReference(MemberReferenceTree node, Void none) {
            Due.is("no method reference: " + node, true, false);
            return null;
        }

        @Override
        public Void visitTry(TryTree node, Void none) {
            Due.is("nothing is caught: " + node, true, false);
            return null;
        }

        @Override
        public Void visitSwitchExpression(SwitchExpressionTree node, Void none) {
            Due.is("no switch with an answer: " + node, true, false);
            return null;
        }
    }
}
