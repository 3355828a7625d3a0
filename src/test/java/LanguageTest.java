import com.sun.source.tree.ClassTree;
import com.sun.source.tree.CompilationUnitTree;
import com.sun.source.tree.ImportTree;
import com.sun.source.tree.MemberSelectTree;
import com.sun.source.tree.MethodInvocationTree;
import com.sun.source.tree.MethodTree;
import com.sun.source.tree.Tree;
import com.sun.source.tree.VariableTree;
import com.sun.source.util.JavacTask;
import com.sun.source.util.SourcePositions;
import com.sun.source.util.TreeScanner;
import com.sun.source.util.Trees;
import java.lang.reflect.Constructor;
import java.lang.reflect.Field;
import java.lang.reflect.Method;
import java.lang.reflect.Modifier;
import java.nio.charset.StandardCharsets;
import java.nio.file.Files;
import java.nio.file.Path;
import java.util.Arrays;
import java.util.Set;
import java.util.TreeSet;
import java.util.stream.Collectors;
import javax.tools.JavaCompiler;
import javax.tools.StandardJavaFileManager;
import javax.tools.ToolProvider;

/** The rules of LANGUAGE.md as far as a tree of the source can tell, and the document's public face. */
public final class LanguageTest {
    private static final Path SOURCE = Path.of("src/main/java/FarewellStones.java");
    private static final Set<String> BANNED = Set.of("THROW", "TRY", "CATCH", "SYNCHRONIZED", "ASSERT",
        "LAMBDA_EXPRESSION", "MEMBER_REFERENCE", "INSTANCE_OF", "NULL_LITERAL");
    private static final Set<String> LIBRARY = Set.of("Math.max", "Math.min", "Math.abs", "Arrays.fill",
        "System.arraycopy", "SIGNS.indexOf", "WORDS.charAt");
    private static final Set<String> FACE = Set.of("int feed(int,int,int,int,int)", "int back(int)", "int read()",
        "int place()", "int cell(int,int,int)", "int stone(int,int,int)", "int leaver(int,int)", "int hurl(int,int,int)",
        "int days(int)", "boolean undo()", "int over(int,int)", "int overAt(int,int)", "int lack(int)", "int lackAt(int)",
        "int grief()", "int gives(int)", "int needed()", "int alone()", "int breaks()", "int fords()",
        "int tell(int,int,int)", "int forget()", "int fits(int,int,int,int)", "boolean hold(int)", "boolean restore(int)",
        "int count(int)");

    private static final Check CHECK = new Check("LanguageTest");

    public static void main(String[] args) throws Exception {
        face();
        String source = Files.readString(SOURCE, StandardCharsets.UTF_8);
        no("sign beyond ASCII", source.chars().anyMatch(sign -> sign > 126));
        JavaCompiler compiler = ToolProvider.getSystemJavaCompiler();
        try (StandardJavaFileManager files = compiler.getStandardFileManager(null, null, null)) {
            JavacTask task = (JavacTask) compiler.getTask(null, files, null, null, null, files.getJavaFileObjects(SOURCE));
            for (CompilationUnitTree unit : task.parse()) {
                no("package", unit.getPackageName() != null);
                Rules rules = new Rules(unit, Trees.instance(task).getSourcePositions());
                rules.scan(unit, null);
                no("more than 12 classes: " + rules.classes, rules.classes > 12);
            }
        }
        CHECK.end();
    }

    private static void no(String what, boolean found) {
        CHECK.due(what, found, false);
    }

    private static void face() {
        Class<?> program = FarewellStones.class;
        no("program that is not final", !Modifier.isFinal(program.getModifiers()));
        Set<String> methods = new TreeSet<>();
        Set<String> hidden = new TreeSet<>();
        for (Method method : program.getDeclaredMethods()) {
            String name = method.getReturnType() + " " + method.getName() + Arrays.stream(method.getParameterTypes())
                .map(Class::getName).collect(Collectors.joining(",", "(", ")"));
            if (Modifier.isPublic(method.getModifiers())) methods.add(name);
            else hidden.add(method.getName());
            no("method neither public nor private: " + name, (method.getModifiers() & 3) == 0);
        }
        no("face other than the document's: " + methods, !methods.equals(FACE));
        for (Class<?> inner : program.getDeclaredClasses()) {
            for (Method method : inner.getDeclaredMethods()) hidden.add(method.getName());
        }
        for (String name : FACE) {
            no("own method " + name, hidden.contains(name.substring(name.indexOf(' ') + 1, name.indexOf('('))));
        }
        for (Field field : program.getDeclaredFields()) {
            boolean open = !Modifier.isPrivate(field.getModifiers());
            no("open field " + field, open && !field.getName().equals("NONE"));
        }
        for (Constructor<?> made : program.getDeclaredConstructors()) no("constructor " + made, made.getParameterCount() > 0);
    }

    private static final class Rules extends TreeScanner<Void, Void> {
        private final CompilationUnitTree unit;
        private final SourcePositions positions;
        private int classes;

        Rules(CompilationUnitTree unit, SourcePositions positions) {
            this.unit = unit;
            this.positions = positions;
        }

        private long line(long position) {
            return unit.getLineMap().getLineNumber(position);
        }

        private String at(Tree tree) {
            return " at line " + line(positions.getStartPosition(unit, tree));
        }

        @Override
        public Void scan(Tree tree, Void none) {
            if (tree != null) no(tree.getKind() + at(tree), BANNED.contains(tree.getKind().name()));
            return super.scan(tree, none);
        }

        @Override
        public Void visitImport(ImportTree tree, Void none) {
            no("import " + tree, !tree.getQualifiedIdentifier().toString().equals("java.util.Arrays"));
            return super.visitImport(tree, none);
        }

        @Override
        public Void visitClass(ClassTree tree, Void none) {
            classes++;
            int fields = 0;
            for (Tree member : tree.getMembers()) {
                no("initialiser block" + at(member), member.getKind() == Tree.Kind.BLOCK);
                if (!(member instanceof VariableTree field)) continue;
                Set<javax.lang.model.element.Modifier> flags = field.getModifiers().getFlags();
                boolean isStatic = flags.contains(javax.lang.model.element.Modifier.STATIC);
                no("static field that is not final" + at(member),
                    isStatic && !flags.contains(javax.lang.model.element.Modifier.FINAL));
                if (!isStatic) fields++;
            }
            no("more than 20 fields" + at(tree), fields > 20);
            return super.visitClass(tree, none);
        }

        @Override
        public Void visitMethod(MethodTree tree, Void none) {
            no("more than 7 parameters" + at(tree), tree.getParameters().size() > 7);
            long lines = line(positions.getEndPosition(unit, tree)) - line(positions.getStartPosition(unit, tree));
            no("more than 60 lines" + at(tree), lines >= 60);
            return super.visitMethod(tree, none);
        }

        /** Calls of the library begin with a capital; what begins otherwise is an object of the program's own. */
        @Override
        public Void visitMethodInvocation(MethodInvocationTree tree, Void none) {
            if (tree.getMethodSelect() instanceof MemberSelectTree call) {
                String name = call.toString();
                no("call of " + name + at(tree), Character.isUpperCase(name.charAt(0)) && !LIBRARY.contains(name));
            }
            return super.visitMethodInvocation(tree, none);
        }
    }
}
