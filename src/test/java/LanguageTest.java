import com.sun.source.tree.ClassTree;
import com.sun.source.tree.CompilationUnitTree;
import com.sun.source.tree.ImportTree;
import com.sun.source.tree.MethodInvocationTree;
import com.sun.source.tree.MethodTree;
import com.sun.source.tree.NewArrayTree;
import com.sun.source.tree.NewClassTree;
import com.sun.source.tree.Tree;
import com.sun.source.tree.VariableTree;
import com.sun.source.util.JavacTask;
import com.sun.source.util.TreeScanner;
import java.io.File;
import java.lang.reflect.Constructor;
import java.lang.reflect.Field;
import java.lang.reflect.Member;
import java.lang.reflect.Method;
import java.lang.reflect.Modifier;
import java.util.EnumSet;
import java.util.List;
import java.util.Set;
import java.util.TreeSet;
import javax.tools.JavaCompiler;
import javax.tools.StandardJavaFileManager;
import javax.tools.ToolProvider;

/** The rules of LANGUAGE.md that can be read off the source: the face, and what the file may not hold. */
public final class LanguageTest {
    private static final String SOURCE = "src/main/java/CallStages.java";
    private static final Set<Tree.Kind> RULED_OUT = EnumSet.of(Tree.Kind.THROW, Tree.Kind.TRY, Tree.Kind.CATCH,
        Tree.Kind.SYNCHRONIZED, Tree.Kind.ASSERT, Tree.Kind.LAMBDA_EXPRESSION, Tree.Kind.MEMBER_REFERENCE);
    private static final String FACE = "anew() as(int,int) back() bar(int) call(int,int) callOf(int,int) carry(int,long)"
        + " cell(int,int,int) changes() clash(int,int) compare(int,int) comparer(int,int) fault() first() hang(int)"
        + " line(int,int) links(int,int) lose(int) lost(int,int,int) many(int) mend(int,int) moves(int,int)"
        + " net(int,int,int) netOf(int) order(int,int,int,int) outlet(int) parted(int,int) put(int,int,int)"
        + " queue(int,int,int) round(int) rounds() sheet(int,int,int) show(int) slot(int,int,int,int) sort(int,int,int)"
        + " sorter(int) span() tell(int) trace() traffic(int,int,int) waiting() ways() wires(int)";
    private static final Set<String> STATIC_TYPES = Set.of("int", "long", "boolean", "char", "String",
        "int[]", "long[]", "char[]", "byte[]");
    private static final Set<String> LIBRARY = Set.of("Arrays.fill", "Arrays.copyOf", "Arrays.copyOfRange",
        "System.arraycopy", "Math.max", "Math.min", "Math.abs", "Math.floorDiv", "Math.floorMod", "Integer.bitCount",
        "Long.bitCount", "Integer.compare", "Long.compare");
    private static final Due DUE = new Due("LanguageTest");

    public static void main(String[] args) throws Exception {
        face();
        source();
        DUE.end();
    }

    private static void face() {
        Set<String> found = new TreeSet<>();
        for (Method one : CallStages.class.getDeclaredMethods()) {
            if (Modifier.isPublic(one.getModifiers())) found.add(signature(one)); else duePrivate(one);
            boolean tellsALong = Set.of("ways", "first", "lost", "cell").contains(one.getName());
            if (Modifier.isPublic(one.getModifiers())) {
                DUE.due("what " + one.getName() + " answers", one.getReturnType() == (tellsALong ? long.class : int.class) ? 1 : 0, 1);
            }
        }
        DUE.due("the face is " + found, String.join(" ", found).equals(FACE) ? 1 : 0, 1);
        Set<String> constants = new TreeSet<>();
        for (Field one : CallStages.class.getDeclaredFields()) {
            if (Modifier.isPublic(one.getModifiers())) constants.add(one.getName()); else duePrivate(one);
        }
        DUE.due("the constants are " + constants, constants.toString().equals("[FULL, LOST, NONE, OUTSIDE, STATE, UNKNOWN]") ? 1 : 0, 1);
        Constructor<?>[] made = CallStages.class.getDeclaredConstructors();
        DUE.due("constructors", made.length, 1);
        DUE.due("the constructor is public", Modifier.isPublic(made[0].getModifiers()) ? 1 : 0, 1);
        DUE.due("the class is final", Modifier.isFinal(CallStages.class.getModifiers()) ? 1 : 0, 1);
    }

    private static void duePrivate(Member one) {
        DUE.due(one.getName() + " is private", one.isSynthetic() || Modifier.isPrivate(one.getModifiers()) ? 1 : 0, 1);
    }

    private static String signature(Method one) {
        StringBuilder made = new StringBuilder(one.getName()).append('(');
        for (int i = 0; i < one.getParameterCount(); i++) {
            made.append(i == 0 ? "" : ",").append(one.getParameterTypes()[i].getSimpleName());
        }
        return made.append(')').toString();
    }

    private static void source() throws Exception {
        JavaCompiler compiler = ToolProvider.getSystemJavaCompiler();
        try (StandardJavaFileManager files = compiler.getStandardFileManager(null, null, null)) {
            JavacTask task = (JavacTask) compiler.getTask(null, files, null, List.of("-proc:none"), null,
                files.getJavaFileObjects(new File(SOURCE)));
            for (CompilationUnitTree unit : task.parse()) new Reader().scan(unit, null);
        }
    }

    private static final class Reader extends TreeScanner<Void, Void> {
        private int classes = 0;
        private boolean insideMethod = false;

        @Override
        public Void scan(Tree tree, Void none) {
            if (tree != null) DUE.due("line by line: " + tree.getKind(), RULED_OUT.contains(tree.getKind()) ? 1 : 0, 0);
            return super.scan(tree, none);
        }

        @Override
        public Void visitImport(ImportTree tree, Void none) {
            String name = tree.getQualifiedIdentifier().toString();
            boolean listed = Set.of("java.util.Arrays", "java.util.ArrayList", "java.util.List", "java.util.Iterator").contains(name);
            DUE.due("import " + name, listed ? 1 : 0, 1);
            return super.visitImport(tree, none);
        }

        @Override
        public Void visitClass(ClassTree tree, Void none) {
            classes++;
            DUE.due("classes, with " + tree.getSimpleName(), classes <= 12 ? 1 : 0, 1);
            boolean isOuter = tree.getSimpleName().contentEquals("CallStages");
            boolean isStatic = tree.getModifiers().getFlags().contains(javax.lang.model.element.Modifier.STATIC);
            DUE.due(tree.getSimpleName() + " is static", isOuter || isStatic ? 1 : 0, 1);
            int fields = 0;
            for (Tree member : tree.getMembers()) {
                if (member instanceof VariableTree field) {
                    if (isStatic(field)) dueConstant(field); else fields++;
                }
                if (member.getKind() == Tree.Kind.BLOCK) DUE.due("an initialiser block in " + tree.getSimpleName(), 1, 0);
            }
            DUE.due("fields of " + tree.getSimpleName() + ": " + fields, fields <= 20 ? 1 : 0, 1);
            return super.visitClass(tree, none);
        }

        private static boolean isStatic(VariableTree field) {
            return field.getModifiers().getFlags().contains(javax.lang.model.element.Modifier.STATIC);
        }

        private static void dueConstant(VariableTree field) {
            boolean isFinal = field.getModifiers().getFlags().contains(javax.lang.model.element.Modifier.FINAL);
            DUE.due(field.getName() + " is final", isFinal && field.getInitializer() != null ? 1 : 0, 1);
            DUE.due(field.getName() + " is of a type for constants", STATIC_TYPES.contains(field.getType().toString()) ? 1 : 0, 1);
        }

        /** All calls of a run live in one room: rows are made with the object, and no call makes any. */
        @Override
        public Void visitNewArray(NewArrayTree tree, Void none) {
            DUE.due("a method makes " + tree, insideMethod ? 1 : 0, 0);
            return super.visitNewArray(tree, none);
        }

        @Override
        public Void visitNewClass(NewClassTree tree, Void none) {
            DUE.due("a method makes " + tree, insideMethod ? 1 : 0, 0);
            return super.visitNewClass(tree, none);
        }

        @Override
        public Void visitMethod(MethodTree tree, Void none) {
            String name = tree.getName().toString();
            DUE.due("parameters of " + name, tree.getParameters().size() <= 7 ? 1 : 0, 1);
            DUE.due("lines of " + name, tree.toString().lines().count() <= 60 ? 1 : 0, 1);
            boolean isPublic = tree.getModifiers().getFlags().contains(javax.lang.model.element.Modifier.PUBLIC);
            boolean publicName = (" " + FACE).contains(" " + name + "(");
            DUE.due(name + " bears a public name", publicName && !isPublic ? 1 : 0, 0);
            insideMethod = !name.equals("<init>");
            super.visitMethod(tree, none);
            insideMethod = false;
            return null;
        }

        @Override
        public Void visitMethodInvocation(MethodInvocationTree tree, Void none) {
            String called = tree.getMethodSelect().toString();
            // What begins with a capital is a class of the library: the class calls none of its own that way.
            DUE.due(called, Character.isUpperCase(called.charAt(0)) && !LIBRARY.contains(called) ? 1 : 0, 0);
            return super.visitMethodInvocation(tree, none);
        }
    }
}
