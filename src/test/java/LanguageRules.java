import com.sun.source.tree.AssertTree;
import com.sun.source.tree.AssignmentTree;
import com.sun.source.tree.BinaryTree;
import com.sun.source.tree.BlockTree;
import com.sun.source.tree.ClassTree;
import com.sun.source.tree.CompilationUnitTree;
import com.sun.source.tree.CompoundAssignmentTree;
import com.sun.source.tree.DoWhileLoopTree;
import com.sun.source.tree.ExpressionStatementTree;
import com.sun.source.tree.ExpressionTree;
import com.sun.source.tree.ForLoopTree;
import com.sun.source.tree.IdentifierTree;
import com.sun.source.tree.ImportTree;
import com.sun.source.tree.LambdaExpressionTree;
import com.sun.source.tree.LiteralTree;
import com.sun.source.tree.MemberReferenceTree;
import com.sun.source.tree.MethodInvocationTree;
import com.sun.source.tree.MethodTree;
import com.sun.source.tree.NewArrayTree;
import com.sun.source.tree.NewClassTree;
import com.sun.source.tree.SynchronizedTree;
import com.sun.source.tree.ThrowTree;
import com.sun.source.tree.Tree;
import com.sun.source.tree.TryTree;
import com.sun.source.tree.TypeCastTree;
import com.sun.source.tree.UnaryTree;
import com.sun.source.tree.VariableTree;
import com.sun.source.tree.WhileLoopTree;
import com.sun.source.util.JavacTask;
import com.sun.source.util.TreePath;
import com.sun.source.util.TreePathScanner;
import com.sun.source.util.Trees;
import java.io.IOException;
import java.net.URI;
import java.util.ArrayList;
import java.util.HashSet;
import java.util.LinkedHashMap;
import java.util.LinkedHashSet;
import java.util.List;
import java.util.Map;
import java.util.Set;
import javax.lang.model.element.Element;
import javax.lang.model.element.ElementKind;
import javax.lang.model.element.ExecutableElement;
import javax.lang.model.element.Modifier;
import javax.lang.model.element.TypeElement;
import javax.lang.model.element.VariableElement;
import javax.lang.model.type.ArrayType;
import javax.lang.model.type.TypeKind;
import javax.lang.model.type.TypeMirror;
import javax.tools.DiagnosticCollector;
import javax.tools.JavaCompiler;
import javax.tools.JavaFileObject;
import javax.tools.SimpleJavaFileObject;
import javax.tools.ToolProvider;

/**
 * The rules of ../shared/LANGUAGE.md that show in the tree that the compiler makes of the class. In some it asks more
 * than they do, since the class needs no more: no doubles, no casts among classes, no while, objects made by
 * constructors alone, divisors and lengths that are written out. It does not see whether an index is in its row
 * (rule 7), nor whether a recursion has a guard on its depth (rule 8).
 */
final class LanguageRules extends TreePathScanner<Void, Void> {
    private static final Set<String> IMPORTS = Set.of("java.util.Arrays", "java.util.ArrayList", "java.util.List", "java.util.Iterator");
    private static final Set<String> LIBRARY = Set.of(
        "String.length", "String.charAt", "String.isEmpty", "String.equals", "String.indexOf", "String.substring", "String.toCharArray",
        "StringBuilder.append", "StringBuilder.charAt", "StringBuilder.setCharAt", "StringBuilder.setLength", "StringBuilder.deleteCharAt",
        "StringBuilder.reverse", "StringBuilder.length", "StringBuilder.toString",
        "Integer.compare", "Integer.max", "Integer.min", "Integer.bitCount", "Long.compare", "Long.max", "Long.min", "Long.bitCount",
        "Math.max", "Math.min", "Math.abs", "Math.floorDiv", "Math.floorMod",
        "System.arraycopy", "Arrays.copyOf", "Arrays.copyOfRange", "Arrays.fill");
    private static final Set<TypeKind> NUMBERS = Set.of(TypeKind.INT, TypeKind.LONG, TypeKind.SHORT, TypeKind.BYTE, TypeKind.CHAR, TypeKind.BOOLEAN);
    private static final Set<String> TEXTS = Set.of("java.lang.String", "java.lang.StringBuilder");
    private static final int MOST_PARAMETERS = 7, MOST_LINES = 60, MOST_OPEN = 8, MOST_CLASSES = 12, MOST_FIELDS = 20;

    private final List<String> found = new ArrayList<>();
    private final Map<ExecutableElement, Set<ExecutableElement>> calls = new LinkedHashMap<>();
    private final Trees trees;
    private final CompilationUnitTree unit;
    private int classes = 0;

    private LanguageRules(Trees trees, CompilationUnitTree unit) {
        this.trees = trees;
        this.unit = unit;
    }

    /** What is broken in a source of the class RindTalk, each by the number of its rule; none if all holds. */
    static List<String> broken(String source) throws IOException {
        JavaFileObject file = new SimpleJavaFileObject(URI.create("string:///RindTalk.java"), JavaFileObject.Kind.SOURCE) {
            @Override
            public CharSequence getCharContent(boolean ignore) {
                return source;
            }
        };
        JavaCompiler compiler = ToolProvider.getSystemJavaCompiler();
        DiagnosticCollector<JavaFileObject> told = new DiagnosticCollector<>();
        JavacTask task = (JavacTask) compiler.getTask(null, null, told, List.of("-proc:none", "--release", "17"), null, List.of(file));
        CompilationUnitTree unit = task.parse().iterator().next();
        task.analyze();
        LanguageRules rules = new LanguageRules(Trees.instance(task), unit);
        told.getDiagnostics().stream().filter(d -> d.getKind() == javax.tools.Diagnostic.Kind.ERROR).forEach(d -> rules.found.add("it does not compile: " + d));
        if (rules.found.isEmpty()) {
            rules.look(source);
        }
        return rules.found;
    }

    private void look(String source) {
        need(unit.getPackageName() == null, 0, "a package line", unit);
        need(source.chars().allMatch(c -> c == '\n' || (c >= 32 && c < 127)), 4, "a sign beyond the plain ones", unit);
        need(unit.getTypeDecls().size() == 1, 1, "more than one class in the file", unit);
        for (ImportTree line : unit.getImports()) {
            need(IMPORTS.contains(line.getQualifiedIdentifier().toString()), 4, line.toString().trim(), line);
        }
        scan(unit, null);
        need(classes <= MOST_CLASSES, 11, classes + " classes", unit);
        calls.keySet().forEach(this::lookAtCalls);
    }

    private void need(boolean holds, int rule, String what, Tree where) {
        if (!holds) {
            long at = trees.getSourcePositions().getStartPosition(unit, where);
            found.add("rule " + rule + ": " + what + ", line " + (at < 0 ? 0 : unit.getLineMap().getLineNumber(at)));
        }
    }

    private Element element(Tree tree) {
        return trees.getElement(new TreePath(getCurrentPath(), tree));
    }

    private TypeMirror type(Tree tree) {
        return trees.getTypeMirror(new TreePath(getCurrentPath(), tree));
    }

    private boolean isText(Tree tree) {
        return type(tree).toString().equals("java.lang.String");
    }

    private static boolean isOwn(Element e) {
        Element outer = e;
        while (outer.getEnclosingElement() != null && outer.getEnclosingElement().getKind() != ElementKind.PACKAGE) {
            outer = outer.getEnclosingElement();
        }
        return outer.getSimpleName().contentEquals("RindTalk");
    }

    // ---- rules 1, 2, 5, 11: classes and their members

    @Override
    public Void visitClass(ClassTree tree, Void none) {
        classes++;
        TypeElement type = (TypeElement) trees.getElement(getCurrentPath());
        boolean isOuter = type.getEnclosingElement().getKind() == ElementKind.PACKAGE;
        Set<Modifier> marks = type.getModifiers();
        if (isOuter) {
            need(marks.contains(Modifier.PUBLIC) && marks.contains(Modifier.FINAL), 1, "the class is not public and final", tree);
        } else {
            need(type.getNestingKind() == javax.lang.model.element.NestingKind.MEMBER, 2, "a local or anonymous class", tree);
            need(marks.contains(Modifier.STATIC), 2, "a class inside that is not static", tree);
            need(!marks.contains(Modifier.PUBLIC) && !marks.contains(Modifier.PROTECTED), 1, "a class inside that is open", tree);
        }
        int fields = 0;
        for (Element member : type.getEnclosedElements()) {
            boolean isStatic = member.getModifiers().contains(Modifier.STATIC);
            if (member.getKind() == ElementKind.FIELD) {
                fields += isStatic ? 0 : 1;
                need(!isStatic || member.getModifiers().contains(Modifier.FINAL), 5, "a static field that is not final: " + member, tree);
                need(!isStatic || isConstant(member.asType()), 5, "a static field that is no constant: " + member, tree);
            }
            if (isOuter && member.getKind() != ElementKind.CLASS) {
                boolean isShut = member.getModifiers().contains(Modifier.PRIVATE);
                need(isShut || member.getModifiers().contains(Modifier.PUBLIC), 1, "a member that is neither public nor private: " + member, tree);
            }
        }
        need(fields <= MOST_FIELDS, 11, fields + " fields", tree);
        for (Tree member : tree.getMembers()) {
            need(!(member instanceof BlockTree), 5, "an initialiser block", member);
        }
        return super.visitClass(tree, none);
    }

    private static boolean isConstant(TypeMirror type) {
        TypeMirror one = type instanceof ArrayType row ? row.getComponentType() : type;
        return NUMBERS.contains(one.getKind()) || type.toString().equals("java.lang.String");
    }

    @Override
    public Void visitMethod(MethodTree tree, Void none) {
        ExecutableElement method = (ExecutableElement) trees.getElement(getCurrentPath());
        calls.computeIfAbsent(method, m -> new LinkedHashSet<>());
        need(tree.getParameters().size() <= MOST_PARAMETERS, 11, "too many parameters", tree);
        need(lines(tree) <= MOST_LINES, 11, method + " has " + lines(tree) + " lines", tree);
        need(isAllowed(method.getReturnType()) || method.getReturnType().getKind() == TypeKind.VOID, 3, "the type " + method.getReturnType(), tree);
        need(!method.getSimpleName().toString().matches("equals|hashCode|toString"), 6, "a method " + method, tree);
        return super.visitMethod(tree, none);
    }

    private long lines(Tree tree) {
        long begin = trees.getSourcePositions().getStartPosition(unit, tree);
        long end = trees.getSourcePositions().getEndPosition(unit, tree);
        return unit.getLineMap().getLineNumber(end) - unit.getLineMap().getLineNumber(begin) + 1;
    }

    // ---- rule 3: types

    private static boolean isAllowed(TypeMirror type) {
        if (type instanceof ArrayType row && row.getComponentType() instanceof ArrayType inner) {
            return NUMBERS.contains(inner.getComponentType().getKind());
        }
        TypeMirror one = type instanceof ArrayType row ? row.getComponentType() : type;
        boolean isText = TEXTS.contains(one.toString());
        return NUMBERS.contains(one.getKind()) || isText || one.toString().startsWith("RindTalk.") || one.toString().equals("RindTalk");
    }

    @Override
    public Void visitVariable(VariableTree tree, Void none) {
        TypeMirror type = trees.getTypeMirror(getCurrentPath());
        need(isAllowed(type), 3, "the type " + type, tree);
        return super.visitVariable(tree, none);
    }

    // ---- rules 4, 8, 11, 12, 13: calls, and what is made

    private TreePath enclosing() {
        TreePath path = getCurrentPath();
        while (!(path.getLeaf() instanceof MethodTree) && !(path.getLeaf() instanceof ClassTree)) {
            path = path.getParentPath();
        }
        return path;
    }

    private boolean isInConstructor() {
        return enclosing().getLeaf() instanceof MethodTree m && m.getName().contentEquals("<init>");
    }

    @Override
    public Void visitMethodInvocation(MethodInvocationTree tree, Void none) {
        ExecutableElement called = (ExecutableElement) trees.getElement(getCurrentPath());
        boolean isSuper = tree.getMethodSelect().toString().equals("super");
        if (isSuper) {
            return super.visitMethodInvocation(tree, none);
        }
        if (isOwn(called)) {
            if (enclosing().getLeaf() instanceof MethodTree) {
                calls.computeIfAbsent((ExecutableElement) trees.getElement(enclosing()), m -> new LinkedHashSet<>()).add(called);
            }
            need(!isInConstructor(), 12, "a constructor that calls " + called, tree);
        } else {
            String name = called.getEnclosingElement().getSimpleName() + "." + called.getSimpleName();
            boolean isClone = name.equals("Array.clone");
            need(LIBRARY.contains(name) || isClone, 4, "the library's " + name, tree);
        }
        tree.getArguments().forEach(this::needNotThis);
        return super.visitMethodInvocation(tree, none);
    }

    private void needNotThis(ExpressionTree argument) {
        boolean isThis = argument instanceof IdentifierTree name && name.getName().contentEquals("this");
        need(!isThis || !isInConstructor(), 12, "a constructor that hands out its object", argument);
    }

    @Override
    public Void visitNewClass(NewClassTree tree, Void none) {
        boolean inMethod = enclosing().getLeaf() instanceof MethodTree && !isInConstructor();
        need(!inMethod, 12, "an object made by a method", tree);
        need(isAllowed(type(tree)), 4, "the library's " + type(tree), tree);
        need(tree.getClassBody() == null, 2, "an anonymous class", tree);
        tree.getArguments().forEach(this::needNotThis);
        return super.visitNewClass(tree, none);
    }

    @Override
    public Void visitNewArray(NewArrayTree tree, Void none) {
        boolean inMethod = enclosing().getLeaf() instanceof MethodTree && !isInConstructor();
        need(!inMethod, 12, "an array made by a method", tree);
        for (ExpressionTree length : tree.getDimensions()) {
            need(isWrittenOut(length), 7, "a length that is not written out", tree);
        }
        return super.visitNewArray(tree, none);
    }

    /** Numbers, constants, and their sums and products. */
    private boolean isWrittenOut(ExpressionTree tree) {
        if (tree instanceof BinaryTree two) {
            boolean grows = two.getKind() == Tree.Kind.PLUS || two.getKind() == Tree.Kind.MULTIPLY;
            return grows && isWrittenOut(two.getLeftOperand()) && isWrittenOut(two.getRightOperand());
        }
        if (tree instanceof LiteralTree) {
            return true;
        }
        return element(tree) instanceof VariableElement v && v.getConstantValue() instanceof Integer number && number >= 0;
    }

    /** A method may call itself if it is private; what it opens beside that goes at most eight deep. */
    private void lookAtCalls(ExecutableElement method) {
        Tree where = trees.getTree(method);
        for (ExecutableElement called : calls.get(method)) {
            boolean itself = called.equals(method);
            need(!itself || method.getModifiers().contains(Modifier.PRIVATE), 8, method + " calls itself and is open", where);
            need(itself || !leadsTo(called, method, new HashSet<>()), 8, method + " calls itself by " + called, where);
        }
        if (method.getModifiers().contains(Modifier.PUBLIC)) {
            need(open(method, new HashSet<>()) <= MOST_OPEN, 11, method + " opens " + open(method, new HashSet<>()) + " calls", where);
        }
    }

    private boolean leadsTo(ExecutableElement from, ExecutableElement to, Set<ExecutableElement> seen) {
        for (ExecutableElement called : calls.getOrDefault(from, Set.of())) {
            if (called.equals(to) || (seen.add(called) && leadsTo(called, to, seen))) {
                return true;
            }
        }
        return false;
    }

    private int open(ExecutableElement method, Set<ExecutableElement> above) {
        int most = 0;
        if (above.add(method)) {
            for (ExecutableElement called : calls.getOrDefault(method, Set.of())) {
                most = Math.max(most, called.equals(method) ? 0 : open(called, above));
            }
            above.remove(method);
        }
        return most + 1;
    }

    // ---- rules 2, 6, 7, 10: what no line may hold

    @Override
    public Void visitLambdaExpression(LambdaExpressionTree tree, Void none) {
        need(false, 2, "a lambda", tree);
        return null;
    }

    @Override
    public Void visitMemberReference(MemberReferenceTree tree, Void none) {
        need(false, 2, "a method reference", tree);
        return null;
    }

    @Override
    public Void visitThrow(ThrowTree tree, Void none) {
        need(false, 6, "throw", tree);
        return null;
    }

    @Override
    public Void visitTry(TryTree tree, Void none) {
        need(false, 6, "try", tree);
        return null;
    }

    @Override
    public Void visitSynchronized(SynchronizedTree tree, Void none) {
        need(false, 6, "synchronized", tree);
        return null;
    }

    @Override
    public Void visitAssert(AssertTree tree, Void none) {
        need(false, 6, "assert", tree);
        return null;
    }

    @Override
    public Void visitTypeCast(TypeCastTree tree, Void none) {
        need(NUMBERS.contains(type(tree).getKind()), 6, "a cast to " + type(tree), tree);
        return super.visitTypeCast(tree, none);
    }

    @Override
    public Void visitBinary(BinaryTree tree, Void none) {
        switch (tree.getKind()) {
            case DIVIDE: case REMAINDER:
                need(isDivisor(tree.getRightOperand()), 7, "a divisor that is not written out", tree);
                break;
            case PLUS:
                need(!isText(tree), 10, "texts joined by +", tree);
                break;
            case EQUAL_TO: case NOT_EQUAL_TO:
                need(!isText(tree.getLeftOperand()) || !isText(tree.getRightOperand()), 6, "two texts and " + tree.getKind(), tree);
                break;
            default:
                break;
        }
        return super.visitBinary(tree, none);
    }

    private static boolean isDivisor(ExpressionTree tree) {
        return tree instanceof LiteralTree number && number.getValue() instanceof Integer value && value > 0;
    }

    @Override
    public Void visitCompoundAssignment(CompoundAssignmentTree tree, Void none) {
        boolean divides = tree.getKind() == Tree.Kind.DIVIDE_ASSIGNMENT || tree.getKind() == Tree.Kind.REMAINDER_ASSIGNMENT;
        need(!divides || isDivisor(tree.getExpression()), 7, "a divisor that is not written out", tree);
        need(!isText(tree.getVariable()), 10, "texts joined by +=", tree);
        return super.visitCompoundAssignment(tree, none);
    }

    // ---- rule 9: loops

    @Override
    public Void visitWhileLoop(WhileLoopTree tree, Void none) {
        need(false, 9, "a while, whose end is not seen by this test", tree);
        return super.visitWhileLoop(tree, none);
    }

    @Override
    public Void visitDoWhileLoop(DoWhileLoopTree tree, Void none) {
        need(false, 9, "a do, whose end is not seen by this test", tree);
        return super.visitDoWhileLoop(tree, none);
    }

    /** A counter that one step moves, that the condition holds against a bound, and that the body leaves alone. */
    @Override
    public Void visitForLoop(ForLoopTree tree, Void none) {
        Element counter = null;
        boolean rises = false;
        if (tree.getUpdate().size() == 1 && ((ExpressionStatementTree) tree.getUpdate().get(0)).getExpression() instanceof UnaryTree step) {
            counter = element(step.getExpression());
            rises = step.getKind() == Tree.Kind.POSTFIX_INCREMENT || step.getKind() == Tree.Kind.PREFIX_INCREMENT;
        }
        need(counter != null && tree.getCondition() != null && isHeld(tree.getCondition(), counter, rises), 9, "a loop without a counter and its bound", tree);
        need(counter == null || !isWritten(tree.getStatement(), counter), 9, "a loop whose body changes its counter", tree);
        return super.visitForLoop(tree, none);
    }

    private boolean isHeld(ExpressionTree condition, Element counter, boolean rises) {
        if (!(condition instanceof BinaryTree two)) {
            return false;
        }
        if (two.getKind() == Tree.Kind.CONDITIONAL_AND) {
            return isHeld(two.getLeftOperand(), counter, rises) || isHeld(two.getRightOperand(), counter, rises);
        }
        boolean below = two.getKind() == Tree.Kind.LESS_THAN || two.getKind() == Tree.Kind.LESS_THAN_EQUAL;
        boolean above = two.getKind() == Tree.Kind.GREATER_THAN || two.getKind() == Tree.Kind.GREATER_THAN_EQUAL;
        return (rises ? below : above) && counter.equals(element(two.getLeftOperand()));
    }

    private boolean isWritten(Tree body, Element counter) {
        boolean[] written = {false};
        new TreePathScanner<Void, Void>() {
            private void at(ExpressionTree target) {
                written[0] |= counter.equals(trees.getElement(new TreePath(getCurrentPath(), target)));
            }

            @Override
            public Void visitAssignment(AssignmentTree tree, Void none) {
                at(tree.getVariable());
                return super.visitAssignment(tree, none);
            }

            @Override
            public Void visitCompoundAssignment(CompoundAssignmentTree tree, Void none) {
                at(tree.getVariable());
                return super.visitCompoundAssignment(tree, none);
            }

            @Override
            public Void visitUnary(UnaryTree tree, Void none) {
                boolean steps = tree.getKind().name().contains("CREMENT");
                if (steps) {
                    at(tree.getExpression());
                }
                return super.visitUnary(tree, none);
            }
        }.scan(new TreePath(getCurrentPath(), body), null);
        return written[0];
    }
}
