import com.sun.source.tree.*;
import com.sun.source.util.JavacTask;
import com.sun.source.util.SourcePositions;
import com.sun.source.util.TreePath;
import com.sun.source.util.TreePathScanner;
import com.sun.source.util.Trees;
import java.io.File;
import java.io.IOException;
import java.util.ArrayDeque;
import java.util.Deque;
import java.util.HashMap;
import java.util.HashSet;
import java.util.List;
import java.util.Map;
import java.util.Set;
import java.util.TreeSet;
import javax.lang.model.element.Element;
import javax.lang.model.element.ElementKind;
import javax.lang.model.element.ExecutableElement;
import javax.lang.model.element.Modifier;
import javax.lang.model.type.TypeMirror;
import javax.tools.JavaCompiler;
import javax.tools.StandardJavaFileManager;
import javax.tools.ToolProvider;

/**
 * The class's file, as javac reads it, against those rules of LANGUAGE.md that can be told from the
 * text. The program needs less than the rules leave, so this asks for less: no recursion, and no
 * object made outside constructors and the fields' initialisers.
 */
public final class LanguageTest extends TreePathScanner<Void, Void> {
    private static final File SOURCE = new File("src/main/java/HangsAtLowWater.java");
    private static final Set<String> IMPORTS = Set.of("java.util.Arrays", "java.util.ArrayList", "java.util.List",
            "java.util.Iterator");
    private static final Set<String> LIBRARY = Set.of("java.lang.String.length", "java.lang.String.charAt",
            "java.lang.String.isEmpty", "java.lang.Integer.bitCount", "java.lang.Integer.compare",
            "java.lang.Math.abs", "java.lang.Math.max", "java.lang.Math.min", "java.lang.Math.floorMod",
            "java.lang.System.arraycopy", "java.util.Arrays.fill", "java.lang.Object.<init>");
    private static final Set<Tree.Kind> LEFT_OUT = Set.of(Tree.Kind.THROW, Tree.Kind.TRY, Tree.Kind.CATCH,
            Tree.Kind.SYNCHRONIZED, Tree.Kind.ASSERT, Tree.Kind.LAMBDA_EXPRESSION, Tree.Kind.MEMBER_REFERENCE,
            Tree.Kind.BINDING_PATTERN, Tree.Kind.SWITCH_EXPRESSION, Tree.Kind.TYPE_CAST, Tree.Kind.INSTANCE_OF,
            Tree.Kind.ANNOTATION, Tree.Kind.DOUBLE_LITERAL, Tree.Kind.FLOAT_LITERAL);
    private static final int MOST_CLASSES = 12;
    private static final int MOST_FIELDS = 20;
    private static final int MOST_PARAMETERS = 7;
    private static final int MOST_LINES = 60;
    private static final int MOST_DEEP = 8;

    private final Trees trees;
    private final SourcePositions places;
    private final CompilationUnitTree unit;
    private final Set<String> own = new TreeSet<>();
    private final Map<ExecutableElement, Set<ExecutableElement>> calls = new HashMap<>();
    private ExecutableElement within = null;

    private LanguageTest(Trees trees, CompilationUnitTree unit) {
        this.trees = trees;
        this.places = trees.getSourcePositions();
        this.unit = unit;
    }

    private long line(long position) {
        return unit.getLineMap().getLineNumber(position);
    }

    private String at(Tree t) {
        return "line " + line(places.getStartPosition(unit, t));
    }

    private static void holds(String told, boolean it) {
        Check.due(told, it ? 1 : 0, 1);
    }

    @Override
    public Void scan(Tree t, Void nothing) {
        if (t != null) {
            holds(at(t) + ": rules 2, 3 and 6 leave no " + t.getKind(), !LEFT_OUT.contains(t.getKind()));
        }
        return super.scan(t, nothing);
    }

    @Override
    public Void visitImport(ImportTree t, Void nothing) {
        holds(at(t) + ": rule 4, import", !t.isStatic() && IMPORTS.contains(t.getQualifiedIdentifier().toString()));
        return super.visitImport(t, nothing);
    }

    @Override
    public Void visitClass(ClassTree t, Void nothing) {
        Tree around = getCurrentPath().getParentPath().getLeaf();
        boolean isOuter = around == unit;
        holds(at(t) + ": rule 2, a class within a class alone", isOuter || around instanceof ClassTree);
        holds(at(t) + ": rule 2, static", isOuter || t.getModifiers().getFlags().contains(Modifier.STATIC));
        own.add(t.getSimpleName().toString());
        int fields = 0;
        for (Tree member : t.getMembers()) {
            holds(at(member) + ": rule 5, no initialiser block", !(member instanceof BlockTree));
            if (member instanceof VariableTree v && !v.getModifiers().getFlags().contains(Modifier.STATIC)) {
                fields++;
            }
        }
        holds(t.getSimpleName() + ": rule 11, fields: " + fields, fields <= MOST_FIELDS);
        return super.visitClass(t, nothing);
    }

    @Override
    public Void visitVariable(VariableTree t, Void nothing) {
        Set<Modifier> flags = t.getModifiers().getFlags();
        String type = t.getType().toString();
        holds(at(t) + ": rule 5, static fields are final constants", !flags.contains(Modifier.STATIC)
                || flags.contains(Modifier.FINAL) && Set.of("int", "long", "boolean", "char", "String").contains(type));
        holds(at(t) + ": rule 3, type " + type, own.contains(type)
                || Set.of("int", "boolean", "char", "String", "int[]").contains(type));
        return super.visitVariable(t, nothing);
    }

    @Override
    public Void visitMethod(MethodTree t, Void nothing) {
        within = (ExecutableElement) trees.getElement(getCurrentPath());
        calls.put(within, new HashSet<>());
        long lines = line(places.getEndPosition(unit, t)) - line(places.getStartPosition(unit, t)) + 1;
        holds(t.getName() + ": rule 11, lines: " + lines, lines <= MOST_LINES);
        holds(t.getName() + ": rule 11, parameters", t.getParameters().size() <= MOST_PARAMETERS);
        holds(t.getName() + ": rule 6, throws nothing", t.getThrows().isEmpty());
        holds(t.getName() + ": no own name for what Object has", !Set.of("equals", "hashCode", "toString")
                .contains(t.getName().toString()));
        super.visitMethod(t, nothing);
        within = null;
        return null;
    }

    @Override
    public Void visitMethodInvocation(MethodInvocationTree t, Void nothing) {
        ExecutableElement called = (ExecutableElement) trees.getElement(getCurrentPath());
        String of = called.getEnclosingElement().toString();
        if (of.startsWith("HangsAtLowWater")) {
            holds(at(t) + ": rule 8, called outside a method", within != null);
            calls.get(within).add(called);
        } else {
            String name = of + "." + called.getSimpleName();
            holds(at(t) + ": rule 4, " + name, LIBRARY.contains(name));
        }
        return super.visitMethodInvocation(t, nothing);
    }

    private boolean isMadeOnce() {
        return within == null || within.getKind() == ElementKind.CONSTRUCTOR;
    }

    @Override
    public Void visitNewClass(NewClassTree t, Void nothing) {
        holds(at(t) + ": rule 12, an object outside a constructor", isMadeOnce() && t.getClassBody() == null);
        holds(at(t) + ": rule 4, made: " + t.getIdentifier(), own.contains(t.getIdentifier().toString()));
        return super.visitNewClass(t, nothing);
    }

    @Override
    public Void visitNewArray(NewArrayTree t, Void nothing) {
        holds(at(t) + ": rule 12, an array outside a constructor", isMadeOnce());
        return super.visitNewArray(t, nothing);
    }

    private boolean isText(Tree t) {
        TypeMirror type = trees.getTypeMirror(new TreePath(getCurrentPath(), t));
        return type != null && type.toString().equals("java.lang.String");
    }

    @Override
    public Void visitBinary(BinaryTree t, Void nothing) {
        holds(at(t) + ": rules 6 and 10, no " + t.getKind() + " of texts",
                !isText(t.getLeftOperand()) && !isText(t.getRightOperand()));
        return super.visitBinary(t, nothing);
    }

    @Override
    public Void visitCompoundAssignment(CompoundAssignmentTree t, Void nothing) {
        holds(at(t) + ": rule 10, no " + t.getKind() + " of texts", !isText(t.getVariable()));
        return super.visitCompoundAssignment(t, nothing);
    }

    /** How many calls stand open at once at most, with this one. */
    private int depth(ExecutableElement method, Deque<ExecutableElement> open) {
        if (open.contains(method)) {
            holds(method + ": rule 8, calls itself by way of " + open, false);
            return 0;
        }
        open.push(method);
        int deepest = 0;
        for (ExecutableElement called : calls.getOrDefault(method, Set.of())) {
            deepest = Math.max(deepest, depth(called, open));
        }
        open.pop();
        return deepest + 1;
    }

    private void checkWhole() {
        holds("rule 1, a package", unit.getPackageName() == null);
        holds("one class in the file", unit.getTypeDecls().size() == 1);
        holds("rule 11, classes: " + own, own.size() <= MOST_CLASSES);
        Set<String> face = new HashSet<>();
        for (ExecutableElement m : calls.keySet()) {
            if (m.getModifiers().contains(Modifier.PUBLIC)) {
                face.add(m.getSimpleName().toString());
            }
        }
        for (ExecutableElement m : calls.keySet()) {
            Element of = m.getEnclosingElement();
            int deep = depth(m, new ArrayDeque<>());
            holds(of + "." + m + ": rule 11, deep: " + deep, deep <= MOST_DEEP);
            boolean isNamedAsFace = face.contains(m.getSimpleName().toString());
            holds(of + "." + m + ": rule 1, named as a public one", m.getModifiers().contains(Modifier.PUBLIC)
                    || m.getKind() == ElementKind.CONSTRUCTOR || !isNamedAsFace);
        }
    }

    public static void main(String[] arguments) throws IOException {
        JavaCompiler javac = ToolProvider.getSystemJavaCompiler();
        try (StandardJavaFileManager files = javac.getStandardFileManager(null, null, null)) {
            JavacTask task = (JavacTask) javac.getTask(null, files, null, List.of("-proc:none", "-Xlint:none"), null,
                    files.getJavaFileObjects(SOURCE));
            CompilationUnitTree unit = task.parse().iterator().next();
            task.analyze();
            LanguageTest rules = new LanguageTest(Trees.instance(task), unit);
            for (Tree top : unit.getTypeDecls()) {
                for (Tree member : ((ClassTree) top).getMembers()) {
                    if (member instanceof ClassTree inside) {
                        rules.own.add(inside.getSimpleName().toString());
                    }
                }
            }
            rules.scan(unit, null);
            rules.checkWhole();
        }
        Check.finish();
    }
}
