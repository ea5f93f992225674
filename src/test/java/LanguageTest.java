import com.sun.source.tree.ArrayTypeTree;
import com.sun.source.tree.AssertTree;
import com.sun.source.tree.BinaryTree;
import com.sun.source.tree.CatchTree;
import com.sun.source.tree.ClassTree;
import com.sun.source.tree.CompilationUnitTree;
import com.sun.source.tree.CompoundAssignmentTree;
import com.sun.source.tree.ExpressionTree;
import com.sun.source.tree.LambdaExpressionTree;
import com.sun.source.tree.LiteralTree;
import com.sun.source.tree.MemberReferenceTree;
import com.sun.source.tree.MethodInvocationTree;
import com.sun.source.tree.MethodTree;
import com.sun.source.tree.NewClassTree;
import com.sun.source.tree.SynchronizedTree;
import com.sun.source.tree.ThrowTree;
import com.sun.source.tree.Tree;
import com.sun.source.tree.TryTree;
import com.sun.source.tree.TypeCastTree;
import com.sun.source.tree.VariableTree;
import com.sun.source.util.JavacTask;
import com.sun.source.util.SourcePositions;
import com.sun.source.util.TreePath;
import com.sun.source.util.TreePathScanner;
import com.sun.source.util.Trees;
import java.io.File;
import java.io.IOException;
import java.util.ArrayList;
import java.util.HashMap;
import java.util.List;
import java.util.Map;
import java.util.Set;
import java.util.TreeMap;
import java.util.TreeSet;
import javax.lang.model.element.Element;
import javax.lang.model.element.ElementKind;
import javax.lang.model.element.ExecutableElement;
import javax.lang.model.element.Modifier;
import javax.lang.model.element.TypeElement;
import javax.lang.model.type.TypeKind;
import javax.lang.model.type.TypeMirror;
import javax.tools.JavaCompiler;
import javax.tools.StandardJavaFileManager;
import javax.tools.ToolProvider;

/** The class keeps to what of ../shared/LANGUAGE.md can be read off its text; the rules' numbers stand in the checks. */
public final class LanguageTest {
    private static final Check C = new Check("LanguageTest");
    private static final File SOURCE = new File("src/main/java/BackVillage.java");
    private static final int MOST_PARAMETERS = 7;
    private static final int MOST_LINES = 60;
    private static final int MOST_CLASSES = 12;
    private static final int MOST_FIELDS = 20;
    private static final int MOST_CALLS_DEEP = 8;
    private static final Set<String> THROWN = Set.of("IllegalStateException", "IllegalArgumentException",
        "IndexOutOfBoundsException", "ArithmeticException", "UnsupportedOperationException", "NoSuchElementException",
        "RuntimeException");
    private static final Set<String> IMPORTS = Set.of("java.util.Arrays", "java.util.NoSuchElementException",
        "java.util.ArrayList", "java.util.List", "java.util.Iterator");
    private static final Map<String, Set<String>> LIBRARY = Map.of(
        "String", Set.of("length", "charAt", "isEmpty", "equals", "indexOf", "substring", "toCharArray"),
        "StringBuilder", Set.of("append", "charAt", "setCharAt", "setLength", "deleteCharAt", "reverse", "length",
            "toString"),
        "List", Set.of("add", "get", "set", "remove", "size", "isEmpty", "clear"),
        "ArrayList", Set.of("add", "get", "set", "remove", "size", "isEmpty", "clear"),
        "Integer", Set.of("compare", "max", "min", "bitCount", "numberOfTrailingZeros", "numberOfLeadingZeros"),
        "Math", Set.of("max", "min", "abs", "floorDiv", "floorMod"),
        "System", Set.of("arraycopy"),
        "Arrays", Set.of("copyOf", "copyOfRange", "fill"),
        "Array", Set.of("clone"));
    // these call one another, and their depth is carried as an argument
    private static final Set<String> RECURSIVE = Set.of("LawReader.readAny", "LawReader.readAll", "LawReader.readAtom");

    private LanguageTest() {
    }

    public static void main(String[] args) throws IOException {
        JavaCompiler compiler = ToolProvider.getSystemJavaCompiler();
        if (compiler == null) {
            System.out.println("LanguageTest: java came without javac's reader, nothing was looked at");
            return;
        }
        try (StandardJavaFileManager files = compiler.getStandardFileManager(null, null, null)) {
            JavacTask task = (JavacTask) compiler.getTask(null, files, null, List.of("-proc:none"), null,
                files.getJavaFileObjects(SOURCE));
            List<CompilationUnitTree> units = new ArrayList<>();
            task.parse().forEach(units::add);
            task.analyze();
            C.due("one file", units.size(), 1);
            CompilationUnitTree unit = units.get(0);
            C.due("1: classes of the file", unit.getTypeDecls().size(), 1);
            C.due("1: no package", unit.getPackage() == null, true);
            unit.getImports().forEach(i -> good("4: import " + i.getQualifiedIdentifier(), !i.isStatic()
                && IMPORTS.contains(i.getQualifiedIdentifier().toString())));
            Reader reader = new Reader(Trees.instance(task), unit);
            reader.scan(unit, null);
            reader.checkAll();
        }
        C.finish();
    }

    private static void good(String what, boolean so) {
        C.due(what, so, true);
    }

    /** Looks at all of the file, once. */
    private static final class Reader extends TreePathScanner<Void, Void> {
        private final Trees trees;
        private final SourcePositions places;
        private final CompilationUnitTree unit;
        private final Map<String, Integer> fields = new TreeMap<>();
        private final Map<String, Set<String>> calls = new TreeMap<>();
        private final Map<String, Set<String>> heirs = new HashMap<>();
        private final Set<String> face = new TreeSet<>();
        private final Set<String> hidden = new TreeSet<>();
        private String method = "";
        private boolean throwing;
        private boolean trying;

        Reader(Trees trees, CompilationUnitTree unit) {
            this.trees = trees;
            this.unit = unit;
            places = trees.getSourcePositions();
        }

        void checkAll() {
            C.due("1: calls of the face, its maker counted", face.size(), 50);
            for (String name : hidden) {
                good("1: no private method is called " + name, !face.contains(name));
            }
            good("11: classes: " + fields.size(), fields.size() <= MOST_CLASSES);
            fields.forEach((name, many) -> good("11: fields of " + name + ": " + many, many <= MOST_FIELDS));
            int deepest = 0;
            for (String name : calls.keySet()) {
                deepest = Math.max(deepest, depth(name, new ArrayList<>()));
            }
            good("11: calls at most 8 deep: " + deepest, deepest <= MOST_CALLS_DEEP);
        }

        private String line(Tree tree) {
            return " in line " + unit.getLineMap().getLineNumber(places.getStartPosition(unit, tree));
        }

        private Element element(Tree tree) {
            return trees.getElement(TreePath.getPath(unit, tree));
        }

        private String typeOf(Tree tree) {
            TypeMirror type = trees.getTypeMirror(TreePath.getPath(unit, tree));
            return type == null ? "" : type.toString();
        }

        /** How many calls stand open at once below this one, this one counted; recursion counts as one call. */
        private int depth(String name, List<String> open) {
            if (open.contains(name)) {
                good("8: recursion is guarded: " + name, RECURSIVE.contains(name));
                return 0;
            }
            open.add(name);
            int deepest = 0;
            for (String called : calls.getOrDefault(name, Set.of())) {
                deepest = Math.max(deepest, depth(called, open));
                for (String heir : heirs.getOrDefault(called.split("\\.")[0], Set.of())) {
                    String there = heir + "." + called.split("\\.")[1];
                    deepest = Math.max(deepest, calls.containsKey(there) ? depth(there, open) : 0);
                }
            }
            open.remove(name);
            return deepest + (RECURSIVE.contains(name) && open.stream().anyMatch(RECURSIVE::contains) ? 0 : 1);
        }

        @Override
        public Void visitClass(ClassTree tree, Void none) {
            TypeElement type = (TypeElement) element(tree);
            String name = type.getSimpleName().toString();
            fields.put(name, 0);
            Set<Modifier> signs = type.getModifiers();
            if (name.equals("BackVillage")) {
                good("1: public and final", signs.equals(Set.of(Modifier.PUBLIC, Modifier.FINAL)));
            } else {
                good("2: static, and hidden: " + name, signs.contains(Modifier.STATIC)
                    && !signs.contains(Modifier.PUBLIC) && !signs.contains(Modifier.PROTECTED));
                C.due("2: no class within a method: " + name, type.getNestingKind().isNested(), true);
            }
            String above = tree.getExtendsClause() == null ? "" : tree.getExtendsClause().toString();
            good("6: no exception of one's own: " + name, !above.endsWith("Exception") && !above.endsWith("Error"));
            heirs.computeIfAbsent(above, a -> new TreeSet<>()).add(name);
            return super.visitClass(tree, none);
        }

        @Override
        public Void visitVariable(VariableTree tree, Void none) {
            Element e = element(tree);
            if (e.getKind() == ElementKind.FIELD) {
                boolean constant = e.getModifiers().contains(Modifier.STATIC);
                String type = e.asType().toString();
                if (constant) {
                    good("5: static and final: " + e, e.getModifiers().contains(Modifier.FINAL)
                        && Set.of("int", "long", "boolean", "char", "java.lang.String", "int[]", "long[]", "char[]",
                            "byte[]").contains(type));
                } else {
                    fields.merge(e.getEnclosingElement().getSimpleName().toString(), 1, Integer::sum);
                }
                boolean seen = e.getEnclosingElement().getSimpleName().contentEquals("BackVillage")
                    && !e.getModifiers().contains(Modifier.PRIVATE);
                good("1: hidden, but for NONE: " + e, !seen || e.getSimpleName().contentEquals("NONE"));
            }
            TypeKind kind = e.asType().getKind();
            good("3: no double is needed: " + e, kind != TypeKind.DOUBLE && kind != TypeKind.FLOAT);
            return super.visitVariable(tree, none);
        }

        @Override
        public Void visitArrayType(ArrayTypeTree tree, Void none) {
            good("3: of one dimension" + line(tree), !(tree.getType() instanceof ArrayTypeTree));
            return super.visitArrayType(tree, none);
        }

        @Override
        public Void visitMethod(MethodTree tree, Void none) {
            ExecutableElement e = (ExecutableElement) element(tree);
            String owner = e.getEnclosingElement().getSimpleName().toString();
            boolean maker = e.getKind() == ElementKind.CONSTRUCTOR;
            String name = maker ? "new " + owner : tree.getName().toString();
            method = owner + "." + name;
            calls.computeIfAbsent(method, m -> new TreeSet<>());
            throwing = false;
            trying = false;
            if (e.getModifiers().contains(Modifier.PUBLIC)) {
                good("1: public in BackVillage alone: " + method, owner.equals("BackVillage"));
                face.add(name);
            } else if (e.getModifiers().contains(Modifier.PRIVATE)) {
                hidden.add(name);
            } else {
                good("1: hidden in BackVillage: " + method, !owner.equals("BackVillage"));
            }
            good("6: no equals, hashCode, toString: " + method, !Set.of("equals", "hashCode", "toString").contains(name));
            good("11: parameters: " + method, tree.getParameters().size() <= MOST_PARAMETERS);
            long first = unit.getLineMap().getLineNumber(Math.max(0, places.getStartPosition(unit, tree)));
            long last = unit.getLineMap().getLineNumber(Math.max(0, places.getEndPosition(unit, tree)));
            good("11: lines: " + method, last - first < MOST_LINES);
            super.visitMethod(tree, none);
            good("6: no throw where one tries: " + method, !(throwing && trying));
            method = "";
            return null;
        }

        @Override
        public Void visitMethodInvocation(MethodInvocationTree tree, Void none) {
            ExecutableElement e = (ExecutableElement) element(tree.getMethodSelect());
            TypeElement owner = (TypeElement) e.getEnclosingElement();
            String name = owner.getSimpleName().toString();
            boolean own = fields.containsKey(name) || owner.getQualifiedName().toString().startsWith("BackVillage");
            if (own && e.getKind() == ElementKind.METHOD) {
                calls.computeIfAbsent(method, m -> new TreeSet<>()).add(name + "." + e.getSimpleName());
            } else if (e.getKind() == ElementKind.METHOD) {
                good("4: " + name + "." + e.getSimpleName() + line(tree),
                    LIBRARY.getOrDefault(name, Set.of()).contains(e.getSimpleName().toString()));
            }
            return super.visitMethodInvocation(tree, none);
        }

        @Override
        public Void visitNewClass(NewClassTree tree, Void none) {
            String made = tree.getIdentifier().toString();
            boolean thrown = getCurrentPath().getParentPath().getLeaf() instanceof ThrowTree;
            boolean own = typeOf(tree).startsWith("BackVillage");
            if (own && !method.isEmpty()) {
                calls.computeIfAbsent(method, m -> new TreeSet<>()).add(made + ".new " + made);
            }
            good("4, 6: new " + made + line(tree), thrown ? THROWN.contains(made) : own
                || Set.of("StringBuilder", "String", "ArrayList<>").contains(made));
            return super.visitNewClass(tree, none);
        }

        @Override
        public Void visitThrow(ThrowTree tree, Void none) {
            throwing = true;
            boolean written = tree.getExpression() instanceof NewClassTree;
            if (written) {
                List<? extends ExpressionTree> told = ((NewClassTree) tree.getExpression()).getArguments();
                written = told.isEmpty() || told.size() == 1 && told.get(0) instanceof LiteralTree;
            }
            good("6: throw new with a written text" + line(tree), written);
            good("6: no throw in a constructor" + line(tree), !method.contains("new "));
            return super.visitThrow(tree, none);
        }

        @Override
        public Void visitTry(TryTree tree, Void none) {
            trying = true;
            good("6: no finally, no resources" + line(tree),
                tree.getFinallyBlock() == null && tree.getResources().isEmpty());
            return super.visitTry(tree, none);
        }

        @Override
        public Void visitCatch(CatchTree tree, Void none) {
            good("6: catch of such as are thrown" + line(tree), THROWN.contains(tree.getParameter().getType().toString()));
            return super.visitCatch(tree, none);
        }

        @Override
        public Void visitBinary(BinaryTree tree, Void none) {
            good("10: no joining of texts by +" + line(tree), !typeOf(tree).endsWith("String"));
            boolean compares = tree.getKind() == Tree.Kind.EQUAL_TO || tree.getKind() == Tree.Kind.NOT_EQUAL_TO;
            String type = typeOf(tree.getLeftOperand());
            good("6: no == of texts" + line(tree), !compares || !type.endsWith("String") && !type.endsWith("Integer"));
            return super.visitBinary(tree, none);
        }

        @Override
        public Void visitCompoundAssignment(CompoundAssignmentTree tree, Void none) {
            good("10: no joining of texts by +=" + line(tree), !typeOf(tree).endsWith("String"));
            return super.visitCompoundAssignment(tree, none);
        }

        @Override
        public Void visitLiteral(LiteralTree tree, Void none) {
            String text = String.valueOf(tree.getValue());
            good("4: signs of 1 to 127" + line(tree), text.chars().allMatch(c -> c > 0 && c < 128));
            return super.visitLiteral(tree, none);
        }

        @Override
        public Void visitTypeCast(TypeCastTree tree, Void none) {
            good("6: no cast between classes" + line(tree),
                trees.getTypeMirror(getCurrentPath()).getKind().isPrimitive());
            return super.visitTypeCast(tree, none);
        }

        @Override
        public Void visitLambdaExpression(LambdaExpressionTree tree, Void none) {
            good("2: no lambda" + line(tree), false);
            return super.visitLambdaExpression(tree, none);
        }

        @Override
        public Void visitMemberReference(MemberReferenceTree tree, Void none) {
            good("2: no method reference" + line(tree), false);
            return super.visitMemberReference(tree, none);
        }

        @Override
        public Void visitAssert(AssertTree tree, Void none) {
            good("6: no assert" + line(tree), false);
            return super.visitAssert(tree, none);
        }

        @Override
        public Void visitSynchronized(SynchronizedTree tree, Void none) {
            good("6: no synchronized" + line(tree), false);
            return super.visitSynchronized(tree, none);
        }
    }
}
